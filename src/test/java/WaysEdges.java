/** Promises 12 to 17: the sentences on ways and ships that name an edge, one by one. */
final class WaysEdges {
    private static final int NONE = DayOldMaps.NONE, BAD = DayOldMaps.BAD, NOT = DayOldMaps.NOT;

    /** Deltas in which no row goes from place a to place f. */
    private static final String[] NO_ROW = {"", "ab9j1", "bf9j1", "ab9j1;cf9j1", "ae9j1;df9j1", "af9j1;"};

    private final Checks checks;

    WaysEdges(Checks checks) {
        this.checks = checks;
    }

    void run() {
        asDeepOrDeeper();
        lengthsOfRows();
        leastRows();
        noRows();
        waysOutside();
        drafts();
        waits();
        mapOfNightZero();
        firstAground();
        noneAndNot();
        changeOfFirstNights();
        changeWithinDepths();
        changeNoneAndNot();
        savedNights();
        savedOnLastNight();
        savedByAgroundAndNot();
        savedOutside();
    }

    private void asDeepOrDeeper() {
        checks.edge(12, "they go through CHANNELS that are as deep, or deeper");
        for (int deep = 0; deep <= 9; deep++) {
            DayOldMaps maps = Checks.with("ab9j1;bf" + deep + "j1");
            for (int draught = 1; draught <= 9; draught++) {
                boolean open = deep >= draught;
                String what = draught + " of " + deep;
                checks.due("ways, " + what, open ? 1 : 0, maps.ways(draught, 0, NONE));
                checks.due("first, " + what, open ? 0 : NONE, maps.ways(draught, 0, 0));
                checks.due("second, " + what, open ? 1 : NONE, maps.ways(draught, 0, 1));
            }
        }
    }

    private void lengthsOfRows() {
        checks.edge(12, "the i-th CHANNEL of the least one (0 to 4; NONE)");
        String[] texts = {"af9j1", "ae9j1;ef9j1", "ad9j1;de9j1;ef9j1", "ac9j1;cd9j1;de9j1;ef9j1",
            "ab9j1;bc9j1;cd9j1;de9j1;ef9j1"};
        for (int length = 1; length <= 5; length++) {
            DayOldMaps maps = Checks.with(texts[length - 1]);
            checks.due("rows", 1, maps.ways(9, 99, NONE));
            for (int i = 0; i < 5; i++) {
                checks.due("step " + i + " of " + length, i < length ? i : NONE, maps.ways(9, 99, i));
            }
        }
    }

    private void leastRows() {
        checks.edge(12, "that is less that has the less CHANNEL where they are first unlike");
        // 0, 3 and 0, 4 and 1, 2: what comes first tells, and only then what comes behind it.
        DayOldMaps maps = Checks.with("ab9j1;ac9j1;cf9j1;bf5j1;bf9j1");
        checks.due("of 5, first", 0, maps.ways(5, 0, 0));
        checks.due("of 5, second", 3, maps.ways(5, 0, 1));
        checks.due("of 6, first", 0, maps.ways(6, 0, 0));
        checks.due("of 6, second", 4, maps.ways(6, 0, 1));
        maps = Checks.with("bf9j1;af9j1;ab9j1");
        checks.due("1 is less than 2, 0", 1, maps.ways(9, 0, 0));
        checks.due("it is one channel", NONE, maps.ways(9, 0, 1));
        maps = Checks.with(Checks.times(16, "af9j1"));
        checks.due("sixteen alike", 16, maps.ways(9, 0, NONE));
        checks.due("the least of them", 0, maps.ways(9, 0, 0));
    }

    private void noRows() {
        checks.edge(12, "WAYS: how many (i = NONE) .. NONE");
        for (String text : NO_ROW) {
            DayOldMaps maps = Checks.with(text);
            checks.due("rows of " + text, 0, maps.ways(1, 0, NONE));
            for (int i = 0; i < 5; i++) checks.due("step of " + text, NONE, maps.ways(1, 0, i));
        }
    }

    private void waysOutside() {
        checks.edge(12, "BAD");
        DayOldMaps maps = Checks.with("af9j1");
        for (int d : Checks.outside(1, 9)) checks.due("draught " + d, BAD, maps.ways(d, 0, 0));
        for (int n : Checks.outside(0, 99)) checks.due("night " + n, BAD, maps.ways(1, n, 0));
        for (int i : Checks.outside(-1, 4)) checks.due("i " + i, BAD, maps.ways(1, 0, i));
        checks.due("wrong where there is no row, too", BAD, new DayOldMaps().ways(1, 0, 5));
    }

    private void drafts() {
        checks.edge(13, "the greatest DRAUGHT that gets through on a NIGHT; NONE");
        for (int deep = 0; deep <= 9; deep++) {
            DayOldMaps maps = Checks.with("ab9j1;bf" + deep + "j1");
            checks.due("draft by " + deep, deep == 0 ? NONE : deep, maps.draft(0));
            maps.storm(99);
            checks.due("draft in a storm of 0 and less", NONE, maps.draft(99));
        }
        for (String text : NO_ROW) checks.due("draft of " + text, NONE, Checks.with(text).draft(0));
        checks.edge(13, "BAD");
        for (int n : Checks.outside(0, 99)) checks.due("night " + n, BAD, Checks.with("af9j1").draft(n));
    }

    private void waits() {
        checks.edge(14, "the first NIGHT from one on (99 at most) in which a DRAUGHT gets through; NONE");
        DayOldMaps maps = Checks.with("af9r9");
        checks.due("from 0 on", 0, maps.waits(9, 0));
        checks.due("from 1 on", 9, maps.waits(9, 1));
        checks.due("from 99 on: 99 itself", 99, maps.waits(9, 99));
        checks.due("from 91 on: the last one", 99, maps.waits(9, 91));
        maps = Checks.with("af9r7");
        checks.due("98", 98, maps.waits(9, 92));
        checks.due("none from 99 on", NONE, maps.waits(9, 99));
        maps = Checks.with("af0j1");
        checks.due("none from 0 on", NONE, maps.waits(1, 0));
        maps.storm(99);
        checks.due("the last one of all", 99, maps.waits(9, 0));
        for (String text : NO_ROW) checks.due("no row", NONE, Checks.with(text).waits(1, 0));
        checks.edge(14, "BAD");
        for (int d : Checks.outside(1, 9)) checks.due("draught " + d, BAD, maps.waits(d, 0));
        for (int n : Checks.outside(0, 99)) checks.due("night " + n, BAD, maps.waits(1, n));
    }

    private void mapOfNightZero() {
        checks.edge(15, "The MAP .. (that of NIGHT 0 those of NIGHT 0)");
        DayOldMaps maps = Checks.with("af5r2");
        checks.due("night 0 goes by what is true", NONE, maps.byMap(5, 0));
        checks.due("night 1 goes by night 0", 0, maps.byMap(5, 1));
        checks.due("night 2 goes by night 1", NOT, maps.byMap(5, 2));
        maps = Checks.with("af5j1");
        maps.storm(0);
        checks.due("in a storm the map of 0 is true, too", NOT, maps.byMap(5, 0));
        checks.due("of 4", NONE, maps.byMap(4, 0));
    }

    private void firstAground() {
        checks.edge(15, "the CHANNEL in which it runs AGROUND (the first that is not)");
        DayOldMaps maps = Checks.with("ef9s1;ab9j1;bc9s2;cd9s1;de9j1");
        // By the map of night 1 all are 9 deep; on night 1 channels 3 and 0 are 8, 2 is 9.
        checks.due("in 3, the third of its row, not in 0 behind it", 3, maps.byMap(9, 1));
        checks.due("as deep is enough", NONE, maps.byMap(8, 1));
        maps.storm(1);
        checks.due("now the first one", 1, maps.byMap(9, 1));
        // In the storm 1 and 4 are 0 deep, but the map does not show it.
        checks.due("of 1", 1, maps.byMap(1, 1));
    }

    private void noneAndNot() {
        checks.edge(15, "NONE: it gets through; NOT: the MAP shows none");
        for (String text : NO_ROW) checks.due("by map of " + text, NOT, Checks.with(text).byMap(1, 1));
        DayOldMaps maps = Checks.with("af0j1");
        maps.storm(5);
        checks.due("open, but not on the map", NOT, maps.byMap(9, 5));
        checks.due("on the map, but no longer open", 0, maps.byMap(9, 6));
        maps.storm(6);
        checks.due("both", NONE, maps.byMap(9, 6));
        checks.edge(15, "BAD; NOT");
        for (int d : Checks.outside(1, 9)) checks.due("draught " + d, BAD, maps.byMap(d, 0));
        for (int n : Checks.outside(0, 99)) checks.due("night " + n, BAD, maps.byMap(1, n));
    }

    private void changeOfFirstNights() {
        checks.edge(16, "(of NIGHT 0 its own twice)");
        DayOldMaps maps = Checks.with("af4w1");
        checks.due("night 0 of 4", NONE, maps.byChange(4, 0));
        checks.due("night 0 of 5", NOT, maps.byChange(5, 0));
        checks.due("night 1 of 4: both show night 0", NONE, maps.byChange(4, 1));
        checks.due("night 1 of 5", NOT, maps.byChange(5, 1));
        checks.due("night 2 of 6: from 4 to 5", NONE, maps.byChange(6, 2));
        checks.due("night 2 of 7", NOT, maps.byChange(7, 2));
        maps = Checks.with("af9s1");
        checks.due("night 0 of 9", NONE, maps.byChange(9, 0));
        checks.due("night 1 of 9: both show night 0", 0, maps.byChange(9, 1));
        checks.due("night 2 of 8: from 9 to 8", NOT, maps.byChange(8, 2));
        checks.due("night 99 of 1", NOT, maps.byChange(1, 99));
    }

    private void changeWithinDepths() {
        checks.edge(16, "0 at least, 9 at most");
        DayOldMaps maps = Checks.with("af9r2");
        // 9, 0, 9, 0: by change 18 is 9 and 9 less 18 is 0.
        checks.due("9 at most, enough for 9", 0, maps.byChange(9, 3));
        checks.due("0 at least, too little for 1", NOT, maps.byChange(1, 2));
        maps = Checks.with("af8w1");
        checks.due("8, 9, then 0 again", 0, maps.byChange(9, 2));
        checks.due("9, 0: nothing", NOT, maps.byChange(1, 3));
        checks.due("0, 1: 2", NONE, maps.byChange(2, 4));
        checks.due("0, 1: no more than 2", NOT, maps.byChange(3, 4));
        maps = Checks.with("af1s1");
        checks.due("1, 0: nothing", NOT, maps.byChange(1, 2));
        checks.due("0, 0: nothing", NOT, maps.byChange(1, 3));
    }

    private void changeNoneAndNot() {
        checks.edge(16, "it goes by the least ROW that is deep enough by this: likewise");
        for (String text : NO_ROW) checks.due("by change of " + text, NOT, Checks.with(text).byChange(1, 2));
        DayOldMaps maps = Checks.with("ab9s1;bf9j1;af6w9");
        checks.due("night 2 of 7: by change 7", NONE, maps.byChange(7, 2));
        checks.due("night 3 of 7: by change 6, and the other has 6", NOT, maps.byChange(7, 3));
        checks.due("night 3 of 6", NONE, maps.byChange(6, 3));
        maps.storm(3);
        checks.due("in a storm", 1, maps.byChange(6, 3));
        checks.edge(16, "BAD; NOT");
        for (int d : Checks.outside(1, 9)) checks.due("draught " + d, BAD, maps.byChange(d, 0));
        for (int n : Checks.outside(0, 99)) checks.due("night " + n, BAD, maps.byChange(1, n));
    }

    private void savedNights() {
        checks.edge(17, "of NIGHTS 2 to 99");
        // One deeper each night: of 3 on nights 2, 12, .. 92 by change alone.
        checks.due("night 2 by change alone", 10, Checks.with("af1w1").saved(3, 0));
        checks.due("night 3 by change alone", 10, Checks.with("af0w1").saved(3, 0));
        // 5 and 4 in turn: on even nights the map shows 4, by change there are 3, and 5 is true.
        checks.due("night 2 by map alone", 49, Checks.with("af5p1").saved(4, 1));
        checks.due("night 2 by map alone, not by change", 0, Checks.with("af5p1").saved(4, 0));
        // Nights 0 and 1 go by the same depths both ways.
        DayOldMaps maps = Checks.with("af4j1");
        maps.storm(0);
        checks.due("by change 3 on night 2, where the map shows 4", 1, maps.saved(4, 1));
        checks.due("no night by change alone", 0, maps.saved(4, 0));
    }

    private void savedOnLastNight() {
        checks.edge(17, "of NIGHTS 2 to 99");
        checks.due("of 9 on nights 9, 19, .. 99 by change alone", 10, Checks.with("af0w1").saved(9, 0));
        checks.due("4 and 5 in turn: on odd nights to 99", 49, Checks.with("af4p1").saved(4, 1));
        DayOldMaps maps = Checks.with("af4j1");
        maps.storm(97);
        checks.due("the storm of 97, by map alone on 99", 1, maps.saved(4, 1));
        maps.calm();
        maps.storm(98);
        checks.due("behind the storm of 98 both ways lead through on 99", 0, maps.saved(4, 1));
    }

    private void savedByAgroundAndNot() {
        checks.edge(17, "gets through BY CHANGE, but not BY MAP; BY MAP, but not BY CHANGE");
        // 5, 4, 3 .. and a steady 1: the map shows one more than there is, by change the other is taken.
        DayOldMaps silts = Checks.with("af5s1;af1j1");
        checks.due("of 1, aground by map on night 5 alone", 1, silts.saved(1, 0));
        checks.due("of 2, aground by map on night 4, no row by change", 0, silts.saved(2, 0));
        checks.due("of 1, by map alone", 0, silts.saved(1, 1));
        // 8, 9, 0, 1 .. and a steady 8: on nights of 0 both ways reckon with 9 and lead aground.
        DayOldMaps walks = Checks.with("ab8w1;bf9j1;af8j1");
        checks.due("of 9, no row by map on nights of 9: 11, 21, .. 91", 9, walks.saved(9, 0));
        checks.due("of 9, by map alone", 0, walks.saved(9, 1));
        checks.due("of 8, both ways lead alike", 0, walks.saved(8, 0));
    }

    private void savedOutside() {
        checks.edge(17, "BAD");
        DayOldMaps maps = Checks.with("af0w1");
        for (int d : Checks.outside(1, 9)) checks.due("draught " + d, BAD, maps.saved(d, 0));
        for (int what : Checks.outside(0, 1)) checks.due("what " + what, BAD, maps.saved(9, what));
        checks.edge(17, "SAVED: .. in how many");
        for (String text : NO_ROW) {
            checks.due("no row", 0, Checks.with(text).saved(1, 0));
            checks.due("no row", 0, Checks.with(text).saved(1, 1));
        }
    }
}
