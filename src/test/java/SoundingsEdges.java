/** Promises 18 to 24: the sentences on soundings, laws and wrecks that name an edge, one by one. */
final class SoundingsEdges {
    private static final int NONE = DayOldMaps.NONE, BAD = DayOldMaps.BAD, FULL = DayOldMaps.FULL;
    private static final int LOST = -11;

    private final Checks checks;

    SoundingsEdges(Checks checks) {
        this.checks = checks;
    }

    void run() {
        soundings();
        forgetting();
        wholeTriples();
        asLongAsEachMayBe();
        asLongAsThereIsRoom();
        refusedSheets();
        noSoundingsNoLaws();
        lawsOutside();
        next();
        tells();
        tellsToTheEnd();
        mapsBack();
        wrecksOutside();
    }

    private void soundings() {
        checks.edge(18, "on a NIGHT one CHANNEL was so DEEP (0 to 9) .. (CHANNEL 0 to 15)");
        DayOldMaps maps = new DayOldMaps();
        for (int n : Checks.outside(0, 99)) checks.due("night " + n, BAD, maps.sounded(n, 0, 0));
        for (int c : Checks.outside(0, 15)) checks.due("channel " + c, BAD, maps.sounded(0, c, 0));
        for (int d : Checks.outside(0, 9)) checks.due("depth " + d, BAD, maps.sounded(0, 0, d));
        checks.due("none so far", 0, maps.count(3));
        checks.edge(18, "12 at most");
        for (int k = 1; k <= 12; k++) {
            checks.due("number " + k, k, maps.sounded(k % 2 * 99, k % 2 * 15, k % 2 * 9));
        }
        checks.due("a thirteenth", FULL, maps.sounded(1, 0, 5));
        checks.due("they stay twelve", 12, maps.count(3));
        checks.edge(18, "BAD; FULL");
        for (int n : Checks.outside(0, 99)) checks.due("night " + n, BAD, maps.sounded(n, 0, 0));
        for (int c : Checks.outside(0, 15)) checks.due("channel " + c, BAD, maps.sounded(0, c, 0));
        for (int d : Checks.outside(0, 9)) checks.due("depth " + d, BAD, maps.sounded(0, 0, d));
    }

    private void forgetting() {
        checks.edge(19, "All SOUNDED are forgotten: how many");
        DayOldMaps maps = Checks.with("af5w1");
        checks.due("of none", 0, maps.forget());
        for (int k = 0; k < 12; k++) maps.sounded(1, 0, 0);
        checks.due("a thirteenth", FULL, maps.sounded(1, 0, 0));
        checks.due("of all that can be", 12, maps.forget());
        checks.due("none is left", 0, maps.count(3));
        checks.due("of none again", 0, maps.forget());
        checks.due("all laws fit again", 36, maps.laws(0, NONE));
        for (int k = 1; k <= 12; k++) checks.due("there is room again", k, maps.sounded(0, 0, 5));
    }

    private void wholeTriples() {
        checks.edge(20, "its items, three for each, as many as are whole");
        for (int items = 0; items <= 12; items++) {
            for (int form = 0; form < 3; form++) {
                DayOldMaps maps = new DayOldMaps();
                maps.sheet(0, form, items);
                checks.due(items + " items", items / 3, maps.read(0));
                checks.due("soundings", items / 3, maps.count(3));
            }
        }
        DayOldMaps maps = new DayOldMaps();
        maps.sheet(3, 0, 36);
        checks.due("twelve at once", 12, maps.read(3));
    }

    private void asLongAsEachMayBe() {
        checks.edge(20, "as long as each may be");
        int[][] least = {{99, 15, 9}, {0, 0, 0}};
        int[][] most = {{99, 100, -1}, {15, 16, -1}, {9, 10, -1}};
        for (int at = 0; at < 3; at++) {
            for (int wrong = 1; wrong <= 2; wrong++) {
                DayOldMaps maps = new DayOldMaps();
                Checks.fill(maps, 1, 0, 99, 15, 9, 0, 0, 0, 1, 1, 1);
                checks.due("all may be", 3, maps.read(1));
                maps.lay(1, 0, 3 + at, most[at][wrong]);
                checks.due("item " + at + " may not be " + most[at][wrong], 1, maps.read(1));
                checks.due("none behind it comes", 4, maps.count(3));
                maps.lay(1, 0, at, most[at][wrong]);
                checks.due("not the first one", 0, maps.read(1));
                maps.lay(1, 0, at, least[0][at]);
                maps.lay(1, 0, 3 + at, least[1][at]);
                checks.due("all may be again", 3, maps.read(1));
            }
        }
        DayOldMaps ints = new DayOldMaps();
        Checks.fill(ints, 0, 2, 0, 0, 0, 256, 0, 0);
        checks.due("256 is no 0", 1, ints.read(0));
        Checks.fill(ints, 0, 2, 2147483647, -2147483648, 0);
        checks.due("far out", 0, ints.read(0));
    }

    private void asLongAsThereIsRoom() {
        checks.edge(20, "and there is room: how many came");
        for (int had = 0; had <= 12; had++) {
            DayOldMaps maps = Checks.with("af5w1");
            for (int k = 0; k < had; k++) maps.sounded(0, 0, 5);
            maps.sheet(2, 1, 60);
            for (int i = 2; i < 60; i += 3) maps.lay(2, 1, i, 5);
            checks.due("where there are " + had, 12 - had, maps.read(2));
            checks.due("soundings", 12, maps.count(3));
            checks.due("all of them fit", 36, maps.laws(0, NONE));
        }
    }

    private void refusedSheets() {
        checks.edge(20, "BAD; NULL");
        DayOldMaps maps = new DayOldMaps();
        for (int s : Checks.outside(0, 3)) checks.due("sheet " + s, BAD, maps.read(s));
        checks.due("no finding", 0, maps.count(8));
        checks.due("a lost one", LOST, maps.read(3));
        checks.due("the finding", 1, maps.count(8));
        maps.sheet(3, 0, 3);
        checks.due("a row", 1, maps.read(3));
        maps.lose(3);
        checks.due("lost again", LOST, maps.read(3));
        checks.due("soundings", 1, maps.count(3));
    }

    private void noSoundingsNoLaws() {
        checks.edge(21, "how many (i = NONE), the i-th (0 to 35; NONE)");
        for (int told = 0; told <= 9; told++) {
            DayOldMaps maps = Checks.with("af" + told + "w1");
            checks.due("nothing sounded: all", 36, maps.laws(0, NONE));
            checks.due("the first", 1, maps.laws(0, 0));
            checks.due("the last", 39, maps.laws(0, 35));
            maps.sounded(0, 0, told);
            checks.due("night 0 as told: all", 36, maps.laws(0, NONE));
            maps.sounded(0, 0, 9 - told);
            checks.due("none", 0, maps.laws(0, NONE));
            checks.due("the first of none", NONE, maps.laws(0, 0));
            checks.due("the last of none", NONE, maps.laws(0, 35));
        }
        DayOldMaps maps = Checks.with(Checks.times(16, "af9s1"));
        maps.sounded(9, 15, 0);
        // 0 on night 9 by w 5 to 9, r but for 1, 3 and 9, s 1, and p by an odd number of turns.
        int[] due = {5, 6, 7, 8, 9, 12, 14, 15, 16, 17, 18, 21, 31, 33, 35, 36, 37, 38, 39};
        checks.due("of channel 15", due.length, maps.laws(15, NONE));
        for (int i = 0; i < due.length; i++) checks.due("law " + i, due[i], maps.laws(15, i));
        checks.due("one more", NONE, maps.laws(15, due.length));
        checks.due("of channel 14", 36, maps.laws(14, NONE));
    }

    private void lawsOutside() {
        checks.edge(21, "BAD: no such CHANNEL");
        DayOldMaps maps = Checks.with("af9s1;af8w1");
        for (int c : Checks.outside(0, 1)) checks.due("channel " + c, BAD, maps.laws(c, NONE));
        checks.due("sounded, but not there", 1, maps.sounded(0, 15, 0));
        checks.due("channel 15", BAD, maps.laws(15, NONE));
        for (int i : Checks.outside(-1, 35)) checks.due("i " + i, BAD, maps.laws(0, i));
    }

    private void next() {
        checks.edge(22, "DEPTHS on a NIGHT by LAWS that fit, as bits");
        for (int told = 0; told <= 9; told++) {
            DayOldMaps maps = Checks.with("ab1w1;bf" + told + "j1");
            checks.due("night 0: as told", 1 << told, maps.next(1, 0));
            maps.storm(0);
            checks.due("laws know of no storm", 1 << told, maps.next(1, 0));
            maps.sounded(0, 1, 9 - told);
            checks.due("no law", 0, maps.next(1, 0));
            checks.due("no law", 0, maps.next(1, 99));
        }
        DayOldMaps maps = Checks.with("af0w1");
        maps.sounded(1, 0, 1);
        checks.due("the highest bit", 512, maps.next(0, 99));
        checks.due("from 9 on 0 again", 1, maps.next(0, 90));
        checks.edge(22, "BAD");
        for (int c : Checks.outside(0, 0)) checks.due("channel " + c, BAD, maps.next(c, 0));
        for (int n : Checks.outside(0, 99)) checks.due("night " + n, BAD, maps.next(0, n));
    }

    private void tells() {
        checks.edge(23, "of like ones the first");
        DayOldMaps maps = Checks.with("af9p9");
        maps.sounded(0, 0, 8);
        for (int night : new int[] {0, 1, 50, 80, 81, 98, 99}) {
            checks.due("no law fits, from " + night, night, maps.tells(0, night));
        }
        maps.forget();
        maps.sounded(2, 0, 7);
        checks.due("s 1 alone fits", 1, maps.laws(0, NONE));
        for (int night : new int[] {0, 1, 50, 80, 81, 98, 99}) {
            checks.due("one law fits, from " + night, night, maps.tells(0, night));
        }
        checks.edge(23, "BAD");
        for (int c : Checks.outside(0, 0)) checks.due("channel " + c, BAD, maps.tells(c, 0));
        for (int n : Checks.outside(0, 99)) checks.due("night " + n, BAD, maps.tells(0, n));
    }

    private void tellsToTheEnd() {
        checks.edge(23, "that on which the greatest number of LAWS that fit and are alike then is least");
        DayOldMaps maps = Checks.with("af0w1");
        maps.sounded(17, 0, 2);
        maps.sounded(26, 0, 3);
        // w 7 and w 8 are alike on nights 0 to 6, 8 to 13, 16 to 20 and 24 to 27, then unlike on 28.
        checks.due("two laws", 2, maps.laws(0, NONE));
        int[][] due = {{0, 7}, {7, 7}, {8, 14}, {15, 15}, {16, 21}, {23, 23}, {24, 28}, {98, 98}, {99, 99}};
        for (int[] d : due) checks.due("from " + d[0] + " on", d[1], maps.tells(0, d[0]));
        checks.edge(23, "of NIGHTS from a told one on (20 of them, to 99 at most)");
        allNights("af0j1");
        allNights("af5j1");
    }

    /** From each night on, with all laws: what is found among its twenty nights and no others. */
    private void allNights(String text) {
        int[] most = mostAlike(text.charAt(2));
        DayOldMaps maps = Checks.with(text);
        for (int night = 0; night <= 99; night++) {
            int best = night;
            for (int later = night; later < night + 20 && later <= 99; later++) {
                if (most[later] < most[best]) best = later;
            }
            checks.due("from " + night + " on", best, maps.tells(0, night));
        }
    }

    /** How many of all laws are alike at most, by nights: as so many deltas that shift by them. */
    private static int[] mostAlike(char told) {
        int[][] alike = new int[100][10];
        for (int law = 0; law < 36; law++) {
            DayOldMaps maps = Checks.with("af" + told + "wrsp".charAt(law / 9) + (law % 9 + 1));
            for (int night = 0; night < 100; night++) alike[night][maps.deep(0, night)]++;
        }
        int[] most = new int[100];
        for (int night = 0; night < 100; night++) {
            for (int many : alike[night]) most[night] = Math.max(most[night], many);
        }
        return most;
    }

    private void mapsBack() {
        checks.edge(24, "(of 0 to 30 NIGHTS back, of NIGHT 0 at the earliest)");
        DayOldMaps maps = Checks.with("af9j1");
        for (int night : new int[] {0, 1, 29, 30, 31, 99}) {
            maps.storm(night);
            // Maps from that of this night back show 9, as the storm of it is on none of them.
            int back = Math.min(30, night);
            int all = back == 30 ? 2147483647 : (1 << back + 1) - 1;
            checks.due("night " + night, night == 0 ? 0 : all, maps.wreck(9, 0, night));
            maps.calm();
        }
        maps.storm(60);
        maps.storm(29);
        checks.due("map 30 back shows the storm of 29", 1073741823, maps.wreck(9, 0, 60));
        maps.calm();
        maps.storm(28);
        checks.due("map 31 back is not asked", 2147483647, maps.wreck(9, 0, 60));
        maps.calm();
        maps.storm(59);
        checks.due("bit 0 is for the map of that night", 2147483646, maps.wreck(9, 0, 60));
        DayOldMaps silts = Checks.with("af9s1");
        checks.due("maps of night 0 and 1 both show night 0", 3, silts.wreck(9, 0, 1));
        checks.due("on night 0 none leads aground", 0, silts.wreck(9, 0, 0));
    }

    private void wrecksOutside() {
        checks.edge(24, "BAD");
        DayOldMaps maps = Checks.with("ab9s1;bf9j1");
        for (int d : Checks.outside(1, 9)) checks.due("draught " + d, BAD, maps.wreck(d, 0, 1));
        for (int c : Checks.outside(0, 1)) checks.due("channel " + c, BAD, maps.wreck(9, c, 1));
        for (int n : Checks.outside(0, 99)) checks.due("night " + n, BAD, maps.wreck(9, 0, n));
        checks.edge(24, "run AGROUND in just that");
        checks.due("in 0", 3, maps.wreck(9, 0, 1));
        checks.due("in 1, as it went no further than 0", 0, maps.wreck(9, 1, 1));
        checks.due("no row at all", 0, Checks.with("ab9s1").wreck(9, 0, 1));
    }
}
