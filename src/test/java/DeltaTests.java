/** Promises 1 to 11: the delta, storms, depths and maps. */
final class DeltaTests {
    private static final int NONE = DayOldMaps.NONE, BAD = DayOldMaps.BAD;
    private static final int NOT = DayOldMaps.NOT, FULL = DayOldMaps.FULL;

    /** One of each kind. */
    private static final String KINDS = "ab5w2;bf7r3;ac9s1;cf6p2;bc3j4";

    private final Checks checks;

    DeltaTests(Checks checks) {
        this.checks = checks;
    }

    void run() {
        constants();
        newObject();
        typing();
        wiping();
        undoing();
        faults();
        channels();
        storms();
        calms();
        odds();
        depths();
        mapsShowYesterday();
    }

    private void constants() {
        checks.begin("constants");
        checks.due("NONE", -1, NONE);
        checks.due("BAD", -2, BAD);
        checks.due("NOT", -3, NOT);
        checks.due("FULL", -4, FULL);
    }

    private void newObject() {
        checks.begin("promise 1");
        DayOldMaps maps = new DayOldMaps();
        int[] counts = {0, 0, 0, 0, 4, 0, 0, 0, 0};
        for (int what = 0; what < counts.length; what++) {
            checks.due("count(" + what + ")", counts[what], maps.count(what));
        }
        checks.due("fault()", NONE, maps.fault());
        for (int s = 0; s < 4; s++) checks.due("lose(" + s + ")", -11, maps.lose(s));
    }

    private void typing() {
        checks.begin("promise 2");
        DayOldMaps maps = new DayOldMaps();
        checks.due("type(-1)", BAD, maps.type(-1));
        checks.due("type(256)", BAD, maps.type(256));
        checks.due("type(0)", 1, maps.type(0));
        checks.due("type(255)", 2, maps.type(255));
        for (int k = 3; k <= 95; k++) checks.due("type, byte " + k, k, maps.type('a'));
        checks.due("type at 95 bytes", FULL, maps.type('a'));
        checks.due("type(256) at 95 bytes", BAD, maps.type(256));
        checks.due("bytes", 95, maps.count(1));
    }

    private void wiping() {
        checks.begin("promise 3");
        DayOldMaps maps = Checks.with(KINDS);
        maps.storm(3);
        maps.sounded(0, 0, 0);
        maps.odds(9);
        checks.due("wipe()", 29, maps.wipe());
        checks.due("wipe() again", 0, maps.wipe());
        checks.due("channels", 0, maps.count(0));
        checks.due("fault()", NONE, maps.fault());
        checks.due("storms stay", 1, maps.count(2));
        checks.due("soundings stay", 1, maps.count(3));
        checks.due("odds stay", 9, maps.count(4));
        Checks.type(maps, "??");
        checks.due("wipe() with a fault", 2, maps.wipe());
        DayOldMaps again = Checks.with("bf1j1;af1j1;af1j1");
        again.wipe();
        Checks.type(again, "af5j1;af5j1");
        checks.due("the least of a new text", 0, again.ways(5, 0, 0));
        checks.due("the safest of a new text", 0, again.safest(5, 0, 0));
        checks.due("rows of a new text", 2, again.count(7));
    }

    private void undoing() {
        checks.begin("promise 4");
        DayOldMaps maps = Checks.with("ab5w2;bf7r3;ac9s1");
        checks.due("undo() of three", 2, maps.undo());
        checks.due("bytes", 11, maps.count(1));
        checks.due("fault()", NONE, maps.fault());
        maps.type(';');
        checks.due("undo() behind a ;", NOT, maps.undo());
        checks.due("bytes stay", 12, maps.count(1));
        Checks.type(maps, "cf1j1");
        checks.due("kind of the new one", 4, maps.channel(2, 3));
        checks.due("undo()", 2, maps.undo());
        checks.due("undo()", 1, maps.undo());
        checks.due("bytes of one", 5, maps.count(1));
        checks.due("undo()", 0, maps.undo());
        checks.due("bytes of none", 0, maps.count(1));
        checks.due("undo() of none", NOT, maps.undo());
    }

    private void faults() {
        checks.begin("promise 5");
        String[] texts = {
            "", "a", "ab", "ab5", "ab5w", "ab5w1", "ab5w1;", "ab5w1;b", "ab5w1;bc3j9",
            "g", "A", "ba", "aa", "ag", "f", "ff", "fa", "ab:", "abx", "ab5q", "ab5w0", "ab5ww",
            "ab5w1,", "ab5w1;;", "ab5w1b", ";", "ab5w1;cb5w1", "xab5w1", "ab0j1", "ef9p9"};
        int[] dues = {
            NONE, 1, 2, 3, 4, NONE, 6, 7, NONE,
            0, 0, 1, 1, 1, 1, 1, 1, 2, 2, 3, 4, 4,
            5, 6, 5, 0, 7, 0, NONE, NONE};
        for (int k = 0; k < texts.length; k++) {
            DayOldMaps maps = Checks.with(texts[k]);
            checks.due("fault() of " + texts[k], dues[k], maps.fault());
            boolean well = dues[k] == NONE;
            checks.due("channels of " + texts[k], well ? (texts[k].length() + 1) / 6 : 0, maps.count(0));
        }
        StringBuilder sixteen = new StringBuilder("af1w1");
        for (int k = 1; k < 16; k++) sixteen.append(";af1w1");
        DayOldMaps full = Checks.with(sixteen.toString());
        checks.due("fault() of sixteen", NONE, full.fault());
        checks.due("channels of sixteen", 16, full.count(0));
        checks.due("no room behind them", FULL, full.type(';'));
        for (int b = 0; b < 256; b++) {
            DayOldMaps maps = Checks.with("ab5");
            maps.type(b);
            boolean kind = b == 'w' || b == 'r' || b == 's' || b == 'p' || b == 'j';
            checks.due("fault() of a kind " + b, kind ? 4 : 3, maps.fault());
        }
    }

    private void channels() {
        checks.begin("promise 6");
        DayOldMaps maps = Checks.with(KINDS);
        int[][] told = {{0, 1, 5, 0, 2}, {1, 5, 7, 1, 3}, {0, 2, 9, 2, 1}, {2, 5, 6, 3, 2}, {1, 2, 3, 4, 4}};
        for (int c = 0; c < 5; c++) {
            for (int what = 0; what < 5; what++) {
                checks.due("channel(" + c + ", " + what + ")", told[c][what], maps.channel(c, what));
            }
        }
        checks.due("channel(5, 0)", BAD, maps.channel(5, 0));
        checks.due("channel(-1, 0)", BAD, maps.channel(-1, 0));
        checks.due("channel(0, 5)", BAD, maps.channel(0, 5));
        checks.due("channel(0, -1)", BAD, maps.channel(0, -1));
        checks.due("channel(2147483647, 0)", BAD, maps.channel(2147483647, 0));
        maps.type('x');
        checks.due("channel(0, 0) with a fault", BAD, maps.channel(0, 0));
    }

    private void storms() {
        checks.begin("promise 7");
        DayOldMaps maps = Checks.with("ab3j1");
        checks.due("storm(-1)", BAD, maps.storm(-1));
        checks.due("storm(100)", BAD, maps.storm(100));
        checks.due("storm(0)", 1, maps.storm(0));
        checks.due("storm(99)", 2, maps.storm(99));
        checks.due("storm(99) again", 3, maps.storm(99));
        checks.due("deep in the first", 6, maps.deep(0, 0));
        checks.due("deep in the last", 6, maps.deep(0, 99));
        checks.due("deep in no storm", 3, maps.deep(0, 98));
        for (int k = 4; k <= 8; k++) checks.due("storm, number " + k, k, maps.storm(k));
        checks.due("storm, a ninth", FULL, maps.storm(1));
        checks.due("storm(100) when full", BAD, maps.storm(100));
        checks.due("storms", 8, maps.count(2));
    }

    private void calms() {
        checks.begin("promise 8");
        DayOldMaps maps = Checks.with("ab3j1");
        checks.due("calm() of none", NOT, maps.calm());
        maps.storm(5);
        maps.storm(6);
        maps.storm(5);
        checks.due("calm()", 2, maps.calm());
        checks.due("the other one of that night stays", 6, maps.deep(0, 5));
        checks.due("calm()", 1, maps.calm());
        checks.due("night 6", 3, maps.deep(0, 6));
        checks.due("calm()", 0, maps.calm());
        checks.due("night 5", 3, maps.deep(0, 5));
        checks.due("calm() of none", NOT, maps.calm());
    }

    private void odds() {
        checks.begin("promise 9");
        DayOldMaps maps = new DayOldMaps();
        checks.due("odds(-1)", BAD, maps.odds(-1));
        checks.due("odds(17)", BAD, maps.odds(17));
        checks.due("odds(16)", 4, maps.odds(16));
        checks.due("odds(0)", 16, maps.odds(0));
        checks.due("odds(7)", 0, maps.odds(7));
        checks.due("count(4)", 7, maps.count(4));
    }

    private void depths() {
        checks.begin("promise 10");
        DayOldMaps maps = Checks.with(KINDS);
        int[][] due = {
            {5, 5, 6, 6, 7, 7, 8, 8, 9, 9, 0, 0, 1},
            {7, 0, 0, 7, 0, 0, 7, 0, 0, 7, 0, 0, 7},
            {9, 8, 7, 6, 5, 4, 3, 2, 1, 0, 0, 0, 0},
            {6, 6, 3, 3, 6, 6, 3, 3, 6, 6, 3, 3, 6},
            {3, 3, 3, 3, 3, 3, 3, 3, 6, 3, 3, 3, 3}};
        maps.storm(8);
        for (int c = 0; c < 5; c++) {
            for (int night = 0; night < 13; night++) {
                checks.due("deep(" + c + ", " + night + ")", due[c][night], maps.deep(c, night));
            }
        }
        checks.due("deep(0, 99)", 4, maps.deep(0, 99));
        checks.due("deep(0, 100)", BAD, maps.deep(0, 100));
        checks.due("deep(0, -1)", BAD, maps.deep(0, -1));
        checks.due("deep(5, 0)", BAD, maps.deep(5, 0));
        checks.due("deep(-1, 0)", BAD, maps.deep(-1, 0));
    }

    private void mapsShowYesterday() {
        checks.begin("promise 11");
        DayOldMaps maps = Checks.with(KINDS);
        maps.storm(8);
        for (int c = 0; c < 5; c++) {
            checks.due("map(" + c + ", 0)", maps.deep(c, 0), maps.map(c, 0));
            for (int night = 1; night < 100; night++) {
                checks.due("map(" + c + ", " + night + ")", maps.deep(c, night - 1), maps.map(c, night));
            }
        }
        checks.due("map(4, 8)", 3, maps.map(4, 8));
        checks.due("map(4, 9)", 6, maps.map(4, 9));
        checks.due("map(0, 100)", BAD, maps.map(0, 100));
        checks.due("map(0, -1)", BAD, maps.map(0, -1));
        checks.due("map(5, 0)", BAD, maps.map(5, 0));
        checks.due("map(-1, 0)", BAD, maps.map(-1, 0));
    }
}
