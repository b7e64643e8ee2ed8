import java.util.Random;

/** Long runs of calls by seeds, each answer against that of the model. */
final class ModelTests {
    private static final int RUNS = 400, CALLS = 400;
    private static final int[] ODD_NUMBERS = {
        -2147483648, 2147483647, -3, -2, -1, 0, 1, 2, 3, 4, 5, 8, 9, 10, 12, 15, 16, 17, 40, 41, 59, 60,
        61, 98, 99, 100, 255, 256};

    private final Checks checks;
    private Random random = new Random(0);

    ModelTests(Checks checks) {
        this.checks = checks;
    }

    void run() {
        for (int seed = 0; seed < RUNS; seed++) {
            random = new Random(seed);
            checks.begin("the model, run " + seed);
            DayOldMaps maps = new DayOldMaps();
            Model model = new Model();
            typeDelta(maps, model);
            for (int k = 0; k < CALLS; k++) call(maps, model, random.nextInt(40));
            checks.due("digest()", Model.digestOf(maps), maps.digest());
        }
    }

    private void typeDelta(DayOldMaps maps, Model model) {
        int many = 1 + random.nextInt(16);
        boolean deep = random.nextBoolean();
        boolean jumpy = random.nextBoolean();
        StringBuilder text = new StringBuilder();
        for (int c = 0; c < many; c++) {
            int from = random.nextInt(5);
            int to = random.nextInt(3) == 0 ? 1 + from + random.nextInt(5 - from) : from + 1;
            if (c > 0) text.append(';');
            text.append((char) ('a' + from)).append((char) ('a' + to));
            text.append((char) ('0' + (deep ? 5 + random.nextInt(5) : random.nextInt(10))));
            text.append(jumpy && random.nextBoolean() ? 'j' : "wrspj".charAt(random.nextInt(5)));
            text.append((char) ('1' + random.nextInt(9)));
        }
        for (int k = 0; k < text.length(); k++) type(maps, model, text.charAt(k));
    }

    private void type(DayOldMaps maps, Model model, int b) {
        checks.due("type(" + b + ")", model.type(b), maps.type(b));
        checks.due("fault()", model.fault(), maps.fault());
    }

    private int some(int most) {
        return random.nextInt(25) == 0 ? ODD_NUMBERS[random.nextInt(ODD_NUMBERS.length)] : random.nextInt(most + 1);
    }

    private int fromNone(int most) {
        return random.nextInt(3) == 0 ? -1 : some(most);
    }

    private void call(DayOldMaps maps, Model model, int which) {
        if (which < 9) changeDelta(maps, model, which);
        else if (which < 18) askWays(maps, model, which);
        else if (which < 25) askSoundings(maps, model, which);
        else if (which < 30) askChances(maps, model, which);
        else askSheets(maps, model, which);
        for (int what = 0; what <= 8; what++) {
            checks.due("count(" + what + ")", model.count(what), maps.count(what));
        }
    }

    private void changeDelta(DayOldMaps maps, Model model, int which) {
        int a = some(99), b = some(16), c = some(5);
        switch (which) {
            case 0:
                if (random.nextInt(30) == 0) checks.due("wipe", model.wipe(), maps.wipe());
                else type(maps, model, random.nextInt(50) == 0 ? some(255) : "a;bf5w3".charAt(random.nextInt(7)));
                break;
            case 1:
                // A text with a fault stays so, but for a new beginning.
                if (model.fault() >= 0) {
                    checks.due("wipe", model.wipe(), maps.wipe());
                    typeDelta(maps, model);
                }
                break;
            case 2:
                if (random.nextInt(3) == 0) checks.due("undo", model.undo(), maps.undo());
                break;
            case 3: checks.due("channel " + b + ", " + c, model.channel(b, c), maps.channel(b, c)); break;
            case 4: checks.due("storm " + a, model.storm(a), maps.storm(a)); break;
            case 5:
                if (random.nextBoolean()) checks.due("calm", model.calm(), maps.calm());
                break;
            case 6: checks.due("odds " + b, model.odds(b), maps.odds(b)); break;
            case 7: checks.due("deep " + b + ", " + a, model.deep(b, a), maps.deep(b, a)); break;
            default: checks.due("map " + b + ", " + a, model.map(b, a), maps.map(b, a));
        }
    }

    private void askWays(DayOldMaps maps, Model model, int which) {
        int d = some(8) + 1, n = some(99), i = fromNone(4), w = some(1);
        String ship = d + ", " + n + ", ";
        switch (which) {
            case 9: case 10: checks.due("ways " + ship + i, model.ways(d, n, i), maps.ways(d, n, i)); break;
            case 11: checks.due("draft " + n, model.draft(n), maps.draft(n)); break;
            case 12: checks.due("waits " + ship, model.waits(d, n), maps.waits(d, n)); break;
            case 13: case 14: checks.due("byMap " + ship, model.byMap(d, n), maps.byMap(d, n)); break;
            case 15: case 16: checks.due("byChange " + ship, model.byChange(d, n), maps.byChange(d, n)); break;
            default:
                if (random.nextInt(4) == 0) checks.due("saved " + d + ", " + w, model.saved(d, w), maps.saved(d, w));
        }
    }

    private void askSoundings(DayOldMaps maps, Model model, int which) {
        int d = some(8) + 1, n = some(99), c = random.nextBoolean() ? some(3) : some(15);
        int i = fromNone(35), deep = some(9), s = some(3);
        switch (which) {
            case 18:
                // True soundings mostly, so that laws go on to fit.
                int v = random.nextInt(4) > 0 && model.deep(c, n) >= 0 ? model.deep(c, n) : deep;
                checks.due("sounded", model.sounded(n, c, v), maps.sounded(n, c, v));
                break;
            case 19:
                if (random.nextInt(3) == 0) checks.due("forget", model.forget(), maps.forget());
                break;
            case 20: checks.due("read " + s, model.read(s), maps.read(s)); break;
            case 21: checks.due("laws " + c + ", " + i, model.laws(c, i), maps.laws(c, i)); break;
            case 22: checks.due("next " + c + ", " + n, model.next(c, n), maps.next(c, n)); break;
            case 23: checks.due("tells " + c + ", " + n, model.tells(c, n), maps.tells(c, n)); break;
            default:
                int at = random.nextBoolean() ? model.byMap(d, n) : c;
                checks.due("wreck " + d + ", " + at + ", " + n, model.wreck(d, at, n), maps.wreck(d, at, n));
        }
    }

    private void askChances(DayOldMaps maps, Model model, int which) {
        int d = some(8) + 1, n = some(99), i = some(4), w = some(1), many = some(40), seed = random.nextInt();
        String ship = d + ", " + n + ", ";
        switch (which) {
            case 25: checks.due("through " + ship + w, model.through(d, n, w), maps.through(d, n, w)); break;
            case 26: checks.due("sure " + ship + i, model.sure(d, n, i), maps.sure(d, n, i)); break;
            case 27:
                int j = random.nextBoolean() ? i : i / 2 - 2;
                checks.due("safest " + ship + j, model.safest(d, n, j), maps.safest(d, n, j));
                break;
            case 28: checks.due("worth " + ship, model.worth(d, n), maps.worth(d, n)); break;
            default:
                checks.due("season " + seed + ", " + ship + many, model.season(seed, d, n, many),
                    maps.season(seed, d, n, many));
        }
    }

    private void askSheets(DayOldMaps maps, Model model, int which) {
        int s = some(3), t = some(3), f = some(2), i = some(12), j = some(12), n = some(12);
        int v = random.nextBoolean() ? random.nextInt() : some(99);
        switch (which) {
            case 30: case 31: checks.due("sheet", model.sheet(s, f, n), maps.sheet(s, f, n)); break;
            case 32:
                if (random.nextInt(3) == 0) checks.due("lose", model.lose(s), maps.lose(s));
                break;
            case 33: case 34: case 35:
                checks.due("lay " + v, model.lay(s, f, i, v), maps.lay(s, f, i, v));
                break;
            case 36: case 37: checks.due("get", model.get(s, f, i), maps.get(s, f, i)); break;
            case 38: checks.due("copy", model.copy(s, i, t, j, n), maps.copy(s, i, t, j, n)); break;
            default:
                checks.due("write", model.write(f, v, s), maps.write(f, v, s));
                checks.due("write", model.write(f, i, s), maps.write(f, i, s));
        }
    }
}
