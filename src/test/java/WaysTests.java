/** Promises 12 to 17: ways, drafts, waits, ships by map and by change. */
final class WaysTests {
    private static final int NONE = DayOldMaps.NONE, BAD = DayOldMaps.BAD, NOT = DayOldMaps.NOT;

    private final Checks checks;

    WaysTests(Checks checks) {
        this.checks = checks;
    }

    void run() {
        ways();
        wrongShips();
        drafts();
        waits();
        byMap();
        byChange();
        saved();
    }

    private void ways() {
        checks.begin("promise 12");
        // a to c by 0,1 or by 2; c to f by 3 or 4: four rows, the least of which is 0, 1, 3.
        DayOldMaps maps = Checks.with("ab5j1;bc6j1;ac8j1;cf4j1;cf9j1;ef9j1;ad9j1");
        checks.due("all rows", 4, maps.count(7));
        checks.due("ways(4)", 4, maps.ways(4, 0, NONE));
        int[] least = {0, 1, 3, NONE, NONE};
        for (int i = 0; i < 5; i++) checks.due("ways(4, 0, " + i + ")", least[i], maps.ways(4, 0, i));
        checks.due("ways(5)", 2, maps.ways(5, 0, NONE));
        checks.due("ways(5), last of the least", 4, maps.ways(5, 0, 2));
        checks.due("ways(6)", 1, maps.ways(6, 0, NONE));
        checks.due("ways(6), first", 2, maps.ways(6, 0, 0));
        checks.due("ways(6), second", 4, maps.ways(6, 0, 1));
        checks.due("ways(6), third", NONE, maps.ways(6, 0, 2));
        checks.due("ways(9)", 0, maps.ways(9, 0, NONE));
        checks.due("ways(9), first", NONE, maps.ways(9, 0, 0));
        maps.storm(7);
        // Depths are 4, 3, 1, 5, 0 then: of the channels from c on the second one is closed.
        checks.due("ways in a storm", 2, maps.ways(1, 7, NONE));
        checks.due("ways in a storm, second", 1, maps.ways(1, 7, 1));
        checks.due("ways behind the storm", 4, maps.ways(1, 8, NONE));
        DayOldMaps shifts = Checks.with("af5w1;af7s1");
        int[][] byNight = {{1, 1}, {2, 0}, {1, 0}, {1, 0}, {1, 0}, {0, NONE}};
        for (int night = 0; night < byNight.length; night++) {
            checks.due("ways in night " + night, byNight[night][0], shifts.ways(6, night, NONE));
            checks.due("the least in night " + night, byNight[night][1], shifts.ways(6, night, 0));
        }
        checks.due("i below", BAD, maps.ways(1, 0, -2));
        checks.due("i above", BAD, maps.ways(1, 0, 5));
        // The first unlike channel tells, not how many channels a row has.
        DayOldMaps short1 = Checks.with("ab1j1;af1j1;bf1j1");
        checks.due("0, 2 is less than 1", 0, short1.ways(1, 0, 0));
        checks.due("0, 2 is less than 1", 2, short1.ways(1, 0, 1));
        DayOldMaps five = Checks.with("ef9w9;de9w9;cd9w9;bc9w9;ab9w9");
        for (int i = 0; i < 5; i++) checks.due("five channels", 4 - i, five.ways(9, 0, i));
    }

    private void wrongShips() {
        int[][] wrong = {{0, 0}, {10, 0}, {-1, 0}, {1, -1}, {1, 100}, {2147483647, -2147483648}};
        DayOldMaps maps = Checks.with("af5w1");
        for (int[] w : wrong) {
            checks.begin("a wrong ship " + w[0] + ", " + w[1]);
            checks.due("ways", BAD, maps.ways(w[0], w[1], NONE));
            checks.due("waits", BAD, maps.waits(w[0], w[1]));
            checks.due("byMap", BAD, maps.byMap(w[0], w[1]));
            checks.due("byChange", BAD, maps.byChange(w[0], w[1]));
            checks.due("wreck", BAD, maps.wreck(w[0], 0, w[1]));
            checks.due("through", BAD, maps.through(w[0], w[1], 0));
            checks.due("sure", BAD, maps.sure(w[0], w[1], 0));
            checks.due("safest", BAD, maps.safest(w[0], w[1], 0));
            checks.due("worth", -102, maps.worth(w[0], w[1]));
            checks.due("season", BAD, maps.season(1, w[0], w[1], 1));
        }
    }

    private void drafts() {
        checks.begin("promise 13");
        DayOldMaps maps = Checks.with("ab5w1;bf7s1;af2r2");
        // The first two have the less of 5, 6, 7, 8, 9, 0, 1, 2 .. and 7, 6, 5, 4, 3, 2, 1, 0 ..
        int[] due = {5, 6, 5, 4, 3, 0, 2, 0, 2, 0};
        for (int night = 0; night < due.length; night++) {
            checks.due("draft(" + night + ")", due[night] == 0 ? NONE : due[night], maps.draft(night));
        }
        checks.due("draft(-1)", BAD, maps.draft(-1));
        checks.due("draft(100)", BAD, maps.draft(100));
        checks.due("draft of no delta", NONE, new DayOldMaps().draft(0));
        checks.due("draft of 0", NONE, Checks.with("af0s1").draft(0));
        checks.due("draft of 1", 1, Checks.with("af1s1").draft(0));
        checks.due("draft of 9", 9, Checks.with("af9s1").draft(0));
    }

    private void waits() {
        checks.begin("promise 14");
        DayOldMaps maps = Checks.with("af0w9");
        checks.due("waits(1, 0)", 9, maps.waits(1, 0));
        checks.due("waits(1, 9)", 9, maps.waits(1, 9));
        checks.due("waits(9, 10)", 81, maps.waits(9, 10));
        checks.due("waits(9, 89)", 89, maps.waits(9, 89));
        checks.due("waits(9, 90)", NONE, maps.waits(9, 90));
        checks.due("waits(1, 99)", 99, maps.waits(1, 99));
        checks.due("waits(2, 99)", NONE, maps.waits(2, 99));
        DayOldMaps jumps = Checks.with("af2j1");
        checks.due("no storm", NONE, jumps.waits(7, 3));
        jumps.storm(40);
        checks.due("a storm", 40, jumps.waits(7, 3));
        checks.due("behind it", NONE, jumps.waits(7, 41));
    }

    private void byMap() {
        checks.begin("promise 15");
        // Channel 0 silts up: the map shows it a night too long.
        DayOldMaps maps = Checks.with("ab5s1;bf9j1;af4j1");
        checks.due("night 0", NONE, maps.byMap(5, 0));
        checks.due("night 1: the map shows night 0", 0, maps.byMap(5, 1));
        checks.due("night 2: no row on the map", NOT, maps.byMap(5, 2));
        checks.due("night 2 for 4: aground", 0, maps.byMap(4, 2));
        checks.due("night 3 for 4: by the other row", NONE, maps.byMap(4, 3));
        maps.storm(1);
        checks.due("the first channel that is not deep enough", 0, maps.byMap(5, 1));
        DayOldMaps second = Checks.with("ab9j1;bf9s9");
        checks.due("the second channel", 1, second.byMap(9, 9));
        second.storm(9);
        checks.due("now the first one", 0, second.byMap(9, 9));
        checks.due("no delta", NOT, new DayOldMaps().byMap(1, 0));
    }

    private void byChange() {
        checks.begin("promise 16");
        DayOldMaps walks = Checks.with("af2w1");
        checks.due("night 0: its own map twice", NONE, walks.byChange(2, 0));
        checks.due("night 0, too deep", NOT, walks.byChange(3, 0));
        checks.due("night 1: both maps show night 0", NOT, walks.byChange(3, 1));
        checks.due("night 2: from 2 to 3, so 4", NONE, walks.byChange(4, 2));
        checks.due("night 2 for 5", NOT, walks.byChange(5, 2));
        checks.due("night 8: from 8 to 9, no more than 9", 0, walks.byChange(9, 8));
        checks.due("night 9: from 9 to 0, no less than 0", NOT, walks.byChange(1, 9));
        checks.due("night 10: from 0 to 1, so 2", NONE, walks.byChange(2, 10));
        DayOldMaps silts = Checks.with("af5s1");
        checks.due("night 1 by the map of night 0", 0, silts.byChange(5, 1));
        checks.due("night 2: 3 is seen ahead", NOT, silts.byChange(4, 2));
        checks.due("night 2 for 3", NONE, silts.byChange(3, 2));
        DayOldMaps storms = Checks.with("af2j1");
        storms.storm(4);
        checks.due("the storm of 4 is on the map of 5", 0, storms.byChange(9, 5));
        checks.due("gone on the map of 6", NOT, storms.byChange(1, 6));
        checks.due("forgotten on that of 7", NONE, storms.byChange(2, 7));
        checks.due("no delta", NOT, new DayOldMaps().byChange(1, 0));
    }

    private void saved() {
        checks.begin("promise 17");
        DayOldMaps walks = Checks.with("af0w1");
        // By change it gets through in each night of depth 9; the map shows 9 a night later.
        checks.due("saved(9, 0)", 10, walks.saved(9, 0));
        checks.due("saved(9, 1)", 0, walks.saved(9, 1));
        // A ship of 1 fails both ways: where it is 0, and where it is 1 behind a 0.
        checks.due("saved(1, 0)", 0, walks.saved(1, 0));
        checks.due("saved(1, 1)", 0, walks.saved(1, 1));
        DayOldMaps steady = Checks.with("af5j1");
        checks.due("a steady one, by change", 0, steady.saved(5, 0));
        checks.due("a steady one, by map", 0, steady.saved(5, 1));
        steady.storm(50);
        // In 50 a ship of 5 runs aground both ways, in 51 no row is deep enough both ways.
        checks.due("of 5 by map alone", 0, steady.saved(5, 1));
        checks.due("of 5 by change alone", 0, steady.saved(5, 0));
        // In 51 the maps show 5, then 4, so that 3 is reckoned; a ship of 4 goes by the map.
        checks.due("of 4 by map alone", 1, steady.saved(4, 1));
        checks.due("of 4 by change alone", 0, steady.saved(4, 0));
        checks.due("draught 0", BAD, walks.saved(0, 0));
        checks.due("draught 10", BAD, walks.saved(10, 0));
        checks.due("what 2", BAD, walks.saved(1, 2));
        checks.due("what -1", BAD, walks.saved(1, -1));
        countedNightByNight("ab9p2;bf9r2;af5s9;ac8w3;cf8w1");
    }

    private void countedNightByNight(String text) {
        DayOldMaps maps = Checks.with(text);
        for (int draught = 1; draught <= 9; draught++) {
            int byChangeAlone = 0, byMapAlone = 0;
            for (int night = 2; night < 100; night++) {
                boolean map = maps.byMap(draught, night) == NONE;
                boolean change = maps.byChange(draught, night) == NONE;
                if (change && !map) byChangeAlone++;
                if (map && !change) byMapAlone++;
            }
            checks.due("saved(" + draught + ", 0)", byChangeAlone, maps.saved(draught, 0));
            checks.due("saved(" + draught + ", 1)", byMapAlone, maps.saved(draught, 1));
        }
    }
}
