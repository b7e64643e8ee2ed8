/** Promises 18 to 24: soundings, laws and wrecks. */
final class SoundingsTests {
    private static final int NONE = DayOldMaps.NONE, BAD = DayOldMaps.BAD, FULL = DayOldMaps.FULL;

    private final Checks checks;

    SoundingsTests(Checks checks) {
        this.checks = checks;
    }

    void run() {
        sounded();
        forget();
        read();
        laws();
        next();
        tells();
        wreck();
    }

    private void sounded() {
        checks.begin("promise 18");
        DayOldMaps maps = new DayOldMaps();
        int[][] wrong = {{-1, 0, 0}, {100, 0, 0}, {0, -1, 0}, {0, 16, 0}, {0, 0, -1}, {0, 0, 10}};
        for (int[] w : wrong) checks.due("a wrong one", BAD, maps.sounded(w[0], w[1], w[2]));
        checks.due("the least", 1, maps.sounded(0, 0, 0));
        checks.due("the greatest, of no channel yet", 2, maps.sounded(99, 15, 9));
        checks.due("the same again", 3, maps.sounded(99, 15, 9));
        for (int k = 4; k <= 12; k++) checks.due("number " + k, k, maps.sounded(k, 1, 1));
        checks.due("a thirteenth", FULL, maps.sounded(0, 0, 0));
        checks.due("a wrong thirteenth", BAD, maps.sounded(100, 0, 0));
        checks.due("count(3)", 12, maps.count(3));
    }

    private void forget() {
        checks.begin("promise 19");
        DayOldMaps maps = Checks.with("af5w1");
        checks.due("of none", 0, maps.forget());
        maps.sounded(1, 0, 0);
        maps.sounded(2, 0, 0);
        checks.due("no law fits", 7, maps.laws(0, NONE));
        checks.due("of two", 2, maps.forget());
        checks.due("all laws fit", 36, maps.laws(0, NONE));
        checks.due("of none again", 0, maps.forget());
    }

    private void read() {
        checks.begin("promise 20");
        DayOldMaps maps = new DayOldMaps();
        checks.due("no such sheet", BAD, maps.read(4));
        checks.due("no such sheet", BAD, maps.read(-1));
        checks.due("a lost one", -11, maps.read(2));
        checks.due("its number", 1, maps.count(8));
        Checks.fill(maps, 0, 0, 99, 15, 9, 3, 2, 1, 7, 7);
        checks.due("as many as are whole", 2, maps.read(0));
        checks.due("count(3)", 2, maps.count(3));
        Checks.fill(maps, 1, 2, 1, 1, 1, 100, 1, 1, 2, 2, 2);
        checks.due("as long as each may be", 1, maps.read(1));
        Checks.fill(maps, 1, 1, 1, 1, -1, 1, 1, 1);
        checks.due("none, as the first may not be", 0, maps.read(1));
        Checks.fill(maps, 3, 1);
        checks.due("no items", 0, maps.read(3));
        maps.sheet(2, 1, 60);
        checks.due("as long as there is room", 9, maps.read(2));
        checks.due("count(3)", 12, maps.count(3));
        checks.due("no room at all", 0, maps.read(2));
        orderOfItems();
    }

    private void orderOfItems() {
        DayOldMaps maps = Checks.with("af5w1;af5w1");
        Checks.fill(maps, 0, 0, 2, 1, 7);
        maps.read(0);
        checks.due("channel 0 was not sounded", 36, maps.laws(0, NONE));
        checks.due("channel 1 was, 7 deep on night 2", 1, maps.laws(1, NONE));
        checks.due("it walks each night", 1, maps.laws(1, 0));
    }

    private void laws() {
        checks.begin("promise 21");
        DayOldMaps maps = Checks.with("af5j7;af3s1");
        checks.due("all", 36, maps.laws(0, NONE));
        for (int i = 0; i < 36; i++) {
            checks.due("law " + i, i / 9 * 10 + i % 9 + 1, maps.laws(0, i));
        }
        maps.sounded(4, 0, 5);
        // On night 4 it is 5 deep by w 5 to 9, r 1, 2 and 4, s 5 to 9, p 1, 2 and 5 to 9.
        int[] due = {5, 6, 7, 8, 9, 11, 12, 14, 25, 26, 27, 28, 29, 31, 32, 35, 36, 37, 38, 39};
        checks.due("how many fit", due.length, maps.laws(0, NONE));
        for (int i = 0; i < due.length; i++) checks.due("fitting law " + i, due[i], maps.laws(0, i));
        checks.due("no more of them", NONE, maps.laws(0, due.length));
        checks.due("the other channel's all fit", 36, maps.laws(1, NONE));
        maps.sounded(5, 0, 6);
        checks.due("it walks", 1, maps.laws(0, NONE));
        checks.due("each five nights", 5, maps.laws(0, 0));
        maps.sounded(0, 0, 4);
        checks.due("none fits", 0, maps.laws(0, NONE));
        checks.due("the first of none", NONE, maps.laws(0, 0));
        checks.due("i 36", BAD, maps.laws(0, 36));
        checks.due("i -2", BAD, maps.laws(0, -2));
        checks.due("no such channel", BAD, maps.laws(2, 0));
        checks.due("no such channel", BAD, maps.laws(-1, 0));
    }

    private void next() {
        checks.begin("promise 22");
        DayOldMaps maps = Checks.with("af5w1");
        checks.due("night 0", 1 << 5, maps.next(0, 0));
        // w: 5 + 9 / n mod 10; r: 5 or 0; s: 5 less 9 / n, 0 at least; p: 4 or 5.
        int walks = 1 << 4 | 1 << 9 | 1 << 8 | 1 << 7 | 1 << 6;
        int silts = 1 | 1 << 1 | 1 << 2 | 1 << 3 | 1 << 4;
        checks.due("night 9 by all laws", walks | silts | 1 << 5, maps.next(0, 9));
        maps.sounded(2, 0, 6);
        checks.due("it walks each two", 1 << 9, maps.next(0, 9));
        checks.due("from 9 on 0 again", 1, maps.next(0, 10));
        maps.forget();
        maps.sounded(3, 0, 8);
        checks.due("it walks each night", 1 << 4, maps.next(0, 9));
        maps.sounded(0, 0, 0);
        checks.due("no law, no depth", 0, maps.next(0, 9));
        checks.due("night 100", BAD, maps.next(0, 100));
        checks.due("night -1", BAD, maps.next(0, -1));
        checks.due("no such channel", BAD, maps.next(1, 0));
        checks.due("no such channel", BAD, maps.next(-1, 0));
    }

    private void tells() {
        checks.begin("promise 23");
        DayOldMaps maps = Checks.with("af0w1");
        maps.sounded(1, 0, 1);
        checks.due("one law: all nights are alike", 30, maps.tells(0, 30));
        maps.sounded(1, 0, 2);
        checks.due("no law: the first night", 31, maps.tells(0, 31));
        checks.due("night 99", 99, maps.tells(0, 99));
        maps.forget();
        // From depth 0 none but w comes to 3 and none but w comes to 1.
        maps.sounded(9, 0, 3);
        checks.due("w 3 alone", 1, maps.laws(0, NONE));
        checks.due("tells nothing", 0, maps.tells(0, 0));
        maps.forget();
        maps.sounded(3, 0, 1);
        checks.due("w 2 and w 3", 2, maps.laws(0, NONE));
        checks.due("first told apart on night 2: 1 and 0", 2, maps.tells(0, 0));
        checks.due("both 1 on night 3, told apart on night 4", 4, maps.tells(0, 3));
        checks.due("from 6 on at once: 3 and 2", 6, maps.tells(0, 6));
        checks.due("from 5 on: 2 and 1", 5, maps.tells(0, 5));
        checks.due("night 100", BAD, maps.tells(0, 100));
        checks.due("night -1", BAD, maps.tells(0, -1));
        checks.due("no such channel", BAD, maps.tells(1, 0));
        checks.due("no such channel", BAD, maps.tells(-1, 0));
        endOfTwenty();
    }

    /** Of twenty nights the last one counts, the one behind it does not. */
    private void endOfTwenty() {
        // All laws from depth 0 on, counted night by night: 20 alike on 27, 19 on 47 and none less.
        DayOldMaps maps = Checks.with("af0w1");
        checks.due("night 47 is the twenty-first", 27, maps.tells(0, 27));
        checks.due("night 47 is the twentieth", 47, maps.tells(0, 28));
        checks.due("night 69 is the twenty-first", 55, maps.tells(0, 49));
        checks.due("night 69 is the twentieth", 69, maps.tells(0, 50));
        checks.due("night 99 counts, and none behind it", 99, maps.tells(0, 96));
    }

    private void wreck() {
        checks.begin("promise 24");
        DayOldMaps maps = Checks.with("af0w1");
        checks.due("maps that show 1 to 9", 511, maps.wreck(1, 0, 10));
        checks.due("map 9 back only to night 0", 0, maps.wreck(1, 0, 0));
        checks.due("with a gap at each tenth, 31 maps", 1610087935, maps.wreck(1, 0, 40));
        checks.due("where it gets through", 0, maps.wreck(1, 0, 9));
        DayOldMaps two = Checks.with("ab5s1;bf9r2;af9p1");
        // On night 3 channel 0 is 2 deep and 1 is 0: a ship of 2 runs aground in 1, one of 3 in 0.
        // The maps of 3 and 2 show nights 2 and 1, those of 1 and 0 night 0.
        checks.due("of 2 in 1", 1 | 4 | 8, two.wreck(2, 1, 3));
        checks.due("of 2 in 0", 0, two.wreck(2, 0, 3));
        checks.due("of 3 in 0", 1 | 4 | 8, two.wreck(3, 0, 3));
        checks.due("of 3 in 1", 0, two.wreck(3, 1, 3));
        DayOldMaps storms = Checks.with("af9j1");
        storms.storm(50);
        checks.due("all 31 maps", 2147483647, storms.wreck(9, 0, 50));
        checks.due("the map of 51 shows the storm", 0, storms.wreck(9, 0, 51));
        checks.due("no such channel", BAD, maps.wreck(1, 1, 0));
        checks.due("no such channel", BAD, maps.wreck(1, -1, 0));
    }
}
