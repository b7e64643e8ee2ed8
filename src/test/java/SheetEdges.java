/** Promises 30 to 37: the sentences on sheets and counts that name an edge, one by one. */
final class SheetEdges {
    private static final int NONE = DayOldMaps.NONE, BAD = DayOldMaps.BAD;
    private static final int LEAST = -2147483648, GREATEST = 2147483647;
    private static final int NULL = -11, INDEX = -12, CAST = -13, STORE = -14, SIZE = -15;

    private final Checks checks;

    SheetEdges(Checks checks) {
        this.checks = checks;
    }

    void run() {
        sizes();
        newRows();
        losses();
        lowestBits();
        itemsOfSheets();
        refusedGets();
        copiesToTheEnds();
        refusedCopies();
        copiesWithin();
        copiesOfForms();
        writesOfAllSizes();
        writesOfNights();
        refusedWrites();
        countsOfNone();
        countsOfMost();
        findings();
        digestOfNothing();
        digestOfMost();
    }

    private void sizes() {
        checks.edge(30, "of 0 to 60 items");
        DayOldMaps maps = new DayOldMaps();
        for (int form = 0; form < 3; form++) {
            for (int n = 0; n <= 60; n++) {
                checks.due("sheet of " + n, n, maps.sheet(form, form, n));
                if (n > 0) checks.due("its last item", 0, maps.get(form, form, n - 1));
                checks.due("none behind it", LEAST, maps.get(form, form, n));
            }
        }
        checks.edge(30, "BAD: SHEET, FORM, above 60");
        maps = new DayOldMaps();
        for (int s : Checks.outside(0, 3)) checks.due("sheet " + s, BAD, maps.sheet(s, 0, 1));
        for (int form : Checks.outside(0, 2)) checks.due("form " + form, BAD, maps.sheet(0, form, 1));
        for (int n : new int[] {61, 62, GREATEST}) checks.due(n + " items", BAD, maps.sheet(0, 0, n));
        for (int s : Checks.outside(0, 3)) checks.due("sheet " + s + " ahead of SIZE", BAD, maps.sheet(s, 0, -1));
        for (int form : Checks.outside(0, 2)) checks.due("form " + form + " ahead of SIZE", BAD, maps.sheet(0, form, -1));
        checks.due("no finding", 0, maps.count(8));
        checks.edge(30, "5 SIZE: below 0");
        for (int n : new int[] {-1, -2, LEAST}) checks.due(n + " items", SIZE, maps.sheet(0, 0, n));
        checks.due("the finding", 5, maps.count(8));
        checks.due("it is lost still", NULL, maps.lose(0));
    }

    private void newRows() {
        checks.edge(30, "(0 at first)");
        DayOldMaps maps = new DayOldMaps();
        maps.sheet(0, 2, 60);
        for (int i = 0; i < 60; i++) maps.lay(0, 2, i, 7);
        maps.sheet(0, 2, 60);
        for (int i = 0; i < 60; i++) checks.due("item " + i, 0, maps.get(0, 2, i));
        maps.lay(0, 2, 1, 5);
        checks.due("refused, it changes nothing", SIZE, maps.sheet(0, 1, -1));
        checks.due("refused, it changes nothing", BAD, maps.sheet(0, 1, 61));
        checks.due("item 1", 5, maps.get(0, 2, 1));
        maps.sheet(0, 2, 0);
        maps.sheet(0, 2, 2);
        checks.due("not what stood there once", 0, maps.get(0, 2, 1));
    }

    private void losses() {
        checks.edge(31, "how many items it had. BAD; NULL");
        DayOldMaps maps = new DayOldMaps();
        for (int s : Checks.outside(0, 3)) checks.due("sheet " + s, BAD, maps.lose(s));
        checks.due("no finding", 0, maps.count(8));
        int[] sizes = {0, 1, 59, 60};
        for (int s = 0; s < 4; s++) {
            checks.due("lost at first", NULL, maps.lose(s));
            maps.sheet(s, s % 3, sizes[s]);
        }
        for (int s = 0; s < 4; s++) {
            checks.due("of " + sizes[s], sizes[s], maps.lose(s));
            checks.due("lost now", NULL, maps.lose(s));
            checks.due("no item is left", NULL, maps.lay(s, s % 3, 0, 1));
        }
        checks.due("the finding", 1, maps.count(8));
    }

    private void lowestBits() {
        checks.edge(32, "(the lowest bits that it has, with its sign)");
        int[] laid = {0, 127, 128, 255, 256, -1, -128, -129, -256, 32767, 32768, 65535, 65536, -32768, -32769,
            GREATEST, LEAST, 0x1234ff80, 0x12348000};
        int[] bytes = {0, 127, -128, -1, 0, -1, -128, 127, 0, -1, 0, -1, 0, 0, -1, -1, 0, -128, 0};
        int[] shorts = {0, 127, 128, 255, 256, -1, -128, -129, -256, 32767, -32768, -1, 0, -32768, 32767,
            -1, 0, -128, -32768};
        DayOldMaps maps = new DayOldMaps();
        for (int form = 0; form < 3; form++) maps.sheet(form, form, 60);
        for (int k = 0; k < laid.length; k++) {
            for (int form = 0; form < 3; form++) {
                checks.due("lay", 1, maps.lay(form, form, 59 - k, laid[k]));
                int due = form == 0 ? bytes[k] : form == 1 ? shorts[k] : laid[k];
                checks.due("form " + form + " of " + laid[k], due, maps.get(form, form, 59 - k));
            }
        }
    }

    private void itemsOfSheets() {
        checks.edge(32, "BAD; NULL; CAST; INDEX");
        for (int size : new int[] {0, 1, 60}) {
            DayOldMaps maps = new DayOldMaps();
            for (int form = 0; form < 3; form++) maps.sheet(form, form, size);
            for (int s : Checks.outside(0, 3)) checks.due("sheet " + s, BAD, maps.lay(s, 9, -1, 1));
            for (int form : Checks.outside(0, 2)) checks.due("form " + form, BAD, maps.lay(3, form, -1, 1));
            checks.due("no finding", 0, maps.count(8));
            for (int form = 0; form < 3; form++) {
                checks.due("a lost one as of form " + form, NULL, maps.lay(3, form, -1, 1));
                checks.due("NULL", 1, maps.count(8));
                checks.due("as of another form", CAST, maps.lay(form, (form + 1) % 3, -1, 1));
                checks.due("CAST", 3, maps.count(8));
                for (int i : Checks.outside(0, size - 1)) {
                    checks.due("item " + i + " of " + size, INDEX, maps.lay(form, form, i, 1));
                    checks.due("INDEX", 2, maps.count(8));
                }
                if (size > 0) checks.due("the last item", 1, maps.lay(form, form, size - 1, 1));
                if (size > 0) checks.due("the first item", 1, maps.lay(form, form, 0, 1));
            }
        }
    }

    private void refusedGets() {
        checks.edge(33, "BAD: the least int; so are NULL, CAST, INDEX (count() 8 tells)");
        for (int size : new int[] {0, 1, 60}) {
            DayOldMaps maps = new DayOldMaps();
            for (int form = 0; form < 3; form++) maps.sheet(form, form, size);
            for (int s : Checks.outside(0, 3)) checks.due("sheet " + s, LEAST, maps.get(s, 0, 0));
            for (int form : Checks.outside(0, 2)) checks.due("form " + form, LEAST, maps.get(3, form, 0));
            checks.due("no finding by BAD", 0, maps.count(8));
            for (int form = 0; form < 3; form++) {
                checks.due("a lost one", LEAST, maps.get(3, form, -1));
                checks.due("NULL", 1, maps.count(8));
                checks.due("as of another form", LEAST, maps.get(form, (form + 2) % 3, -1));
                checks.due("CAST", 3, maps.count(8));
                for (int i : Checks.outside(0, size - 1)) {
                    checks.due("item " + i + " of " + size, LEAST, maps.get(form, form, i));
                    checks.due("INDEX", 2, maps.count(8));
                }
                if (size > 0) checks.due("the last item", 0, maps.get(form, form, size - 1));
                checks.due("the finding stays", 2, maps.count(8));
            }
        }
        DayOldMaps maps = new DayOldMaps();
        Checks.fill(maps, 0, 2, LEAST);
        checks.due("the least int may be an item", LEAST, maps.get(0, 2, 0));
        checks.due("that is no finding", 0, maps.count(8));
    }

    private static DayOldMaps withTwoRows() {
        DayOldMaps maps = new DayOldMaps();
        Checks.fill(maps, 0, 1, 1, 2, 3, 4, 5);
        Checks.fill(maps, 1, 1, 11, 12, 13);
        Checks.fill(maps, 2, 2, 21, 22, 23, 24, 25);
        return maps;
    }

    private void copiesToTheEnds() {
        checks.edge(34, "INDEX: below 0, not so many (with n 0, too, if i or j is above how many there are)");
        for (int i = -2; i <= 7; i++) {
            for (int j = -2; j <= 5; j++) {
                for (int n = -2; n <= 7; n++) {
                    DayOldMaps maps = withTwoRows();
                    boolean well = i >= 0 && j >= 0 && n >= 0 && i + n <= 5 && j + n <= 3;
                    String what = "i " + i + ", j " + j + ", n " + n;
                    checks.due(what, well ? 1 : INDEX, maps.copy(0, i, 1, j, n));
                    checks.due("the finding of " + what, well ? 0 : 2, maps.count(8));
                    for (int k = 0; k < 3; k++) {
                        boolean came = well && k >= j && k < j + n;
                        checks.due("item " + k + " by " + what, came ? 1 + i + k - j : 11 + k, maps.get(1, 1, k));
                    }
                    for (int k = 0; k < 5; k++) checks.due("left as it was", k + 1, maps.get(0, 1, k));
                }
            }
        }
        DayOldMaps maps = withTwoRows();
        int[][] far = {{GREATEST, 0, 1}, {0, GREATEST, 1}, {0, 0, GREATEST}, {1, 1, GREATEST},
            {GREATEST, GREATEST, GREATEST}, {LEAST, 0, 0}, {0, LEAST, 0}, {0, 0, LEAST}, {GREATEST, 0, LEAST},
            {5, 3, GREATEST}, {LEAST, LEAST, LEAST}, {GREATEST, 0, 0}, {0, GREATEST, 0}};
        for (int[] f : far) checks.due("far out", INDEX, maps.copy(0, f[0], 1, f[1], f[2]));
        maps.sheet(3, 1, 0);
        checks.due("none from no items to none", 1, maps.copy(3, 0, 3, 0, 0));
        checks.due("none from no items", 1, maps.copy(3, 0, 1, 3, 0));
        checks.due("one from no items", INDEX, maps.copy(3, 0, 1, 0, 1));
        checks.due("one to no items", INDEX, maps.copy(1, 0, 3, 0, 1));
        checks.due("none, but i above them", INDEX, maps.copy(3, 1, 1, 0, 0));
        checks.due("none, but j above them", INDEX, maps.copy(1, 0, 3, 1, 0));
    }

    private void refusedCopies() {
        checks.edge(34, "BAD: the SHEETS; NULL: s, t; STORE; INDEX");
        DayOldMaps maps = withTwoRows();
        for (int s : Checks.outside(0, 3)) {
            checks.due("s " + s, BAD, maps.copy(s, 0, 0, 0, 1));
            checks.due("t " + s, BAD, maps.copy(0, 0, s, 0, 1));
            checks.due("s " + s + ", t lost", BAD, maps.copy(s, 0, 3, 0, 1));
            checks.due("s lost, t " + s, BAD, maps.copy(3, 0, s, 0, 1));
        }
        checks.due("no finding", 0, maps.count(8));
        checks.due("s lost, and no such items", NULL, maps.copy(3, -1, 0, -1, -1));
        checks.due("t lost, and no such items", NULL, maps.copy(0, -1, 3, -1, -1));
        checks.due("both lost", NULL, maps.copy(3, 0, 3, 0, 0));
        checks.due("the finding", 1, maps.count(8));
        checks.due("unlike, and no such items", STORE, maps.copy(0, -1, 2, -1, -1));
        checks.due("unlike the other way, of none", STORE, maps.copy(2, 0, 0, 0, 0));
        checks.due("the finding", 4, maps.count(8));
    }

    private void copiesWithin() {
        checks.edge(34, "(perhaps s, as they were)");
        for (int i = 0; i <= 5; i++) {
            for (int j = 0; j <= 5; j++) {
                for (int n = 0; n <= 5 - Math.max(i, j); n++) {
                    DayOldMaps maps = withTwoRows();
                    checks.due("copy", 1, maps.copy(0, i, 0, j, n));
                    for (int k = 0; k < 5; k++) {
                        int from = k >= j && k < j + n ? i + k - j : k;
                        checks.due("item " + k + " by " + i + ", " + j + ", " + n, from + 1, maps.get(0, 1, k));
                    }
                }
            }
        }
    }

    private void copiesOfForms() {
        checks.edge(34, "4 STORE: unlike FORMS");
        for (int s = 0; s < 3; s++) {
            for (int t = 0; t < 3; t++) {
                DayOldMaps maps = new DayOldMaps();
                Checks.fill(maps, 0, s, 100);
                Checks.fill(maps, 1, t, 50);
                checks.due("forms " + s + ", " + t, s == t ? 1 : STORE, maps.copy(0, 0, 1, 0, 1));
                checks.due("item", s == t ? 100 : 50, maps.get(1, t, 0));
            }
        }
    }

    private void writesOfAllSizes() {
        checks.edge(35, "as many as there are items and CHANNELS: how many");
        for (int channels = 0; channels <= 16; channels++) {
            for (int items : new int[] {0, 1, 2, 15, 16, 17, 60}) {
                DayOldMaps maps = Checks.with(Checks.times(channels, "af6w9"));
                maps.sheet(0, 0, items);
                for (int i = 0; i < items; i++) maps.lay(0, 0, i, 77);
                int many = Math.min(channels, items);
                checks.due(channels + " to " + items, many, maps.write(channels % 2, 0, 0));
                for (int i = 0; i < items; i++) checks.due("item " + i, i < many ? 6 : 77, maps.get(0, 0, i));
            }
        }
    }

    private void writesOfNights() {
        checks.edge(35, "DEPTHS (what = 0), what the MAP shows (1)");
        DayOldMaps maps = Checks.with("ab8w1;bf9s1");
        maps.sheet(1, 2, 2);
        int[][] due = {{0, 0, 8, 9}, {1, 0, 8, 9}, {0, 1, 9, 8}, {1, 1, 8, 9}, {0, 99, 7, 0}, {1, 99, 6, 0},
            {0, 2, 0, 7}, {1, 2, 9, 8}};
        for (int[] d : due) {
            checks.due("write", 2, maps.write(d[0], d[1], 1));
            checks.due("what " + d[0] + ", night " + d[1], d[2], maps.get(1, 2, 0));
            checks.due("what " + d[0] + ", night " + d[1], d[3], maps.get(1, 2, 1));
        }
    }

    private void refusedWrites() {
        checks.edge(35, "BAD; NULL");
        DayOldMaps maps = Checks.with("af8w1");
        for (int what : Checks.outside(0, 1)) checks.due("what " + what, BAD, maps.write(what, 0, 0));
        for (int n : Checks.outside(0, 99)) checks.due("night " + n, BAD, maps.write(0, n, 0));
        for (int s : Checks.outside(0, 3)) checks.due("sheet " + s, BAD, maps.write(0, 0, s));
        checks.due("no finding", 0, maps.count(8));
        for (int s = 0; s < 4; s++) checks.due("a lost one", NULL, maps.write(0, 0, s));
        checks.due("the finding", 1, maps.count(8));
        DayOldMaps none = new DayOldMaps();
        checks.due("NULL without channels, too", NULL, none.write(0, 0, 0));
        Checks.fill(none, 0, 0, 5);
        checks.due("no channels", 0, none.write(0, 0, 0));
        checks.due("nothing has come", 5, none.get(0, 0, 0));
    }

    private void countsOfNone() {
        checks.edge(36, "8 the number of the latest FINDING (0 before any). BAD");
        DayOldMaps maps = new DayOldMaps();
        for (int what : Checks.outside(0, 8)) checks.due("count(" + what + ")", BAD, maps.count(what));
        checks.due("before any", 0, maps.count(8));
        checks.edge(36, "7 ROWS (of any CHANNELS)");
        checks.due("of channels of no depth", 1, Checks.with("ab0s1;bf0s1").count(7));
        checks.due("of channels that never meet", 0, Checks.with("ab9s1;cf9s1").count(7));
        checks.edge(36, "5 how DEEP all are together in NIGHT 0 without a STORM");
        DayOldMaps jumps = Checks.with("ab1j1;ac9j1;bf3r1");
        jumps.storm(0);
        checks.due("in a storm", 13, jumps.count(5));
        jumps.calm();
        checks.due("in none", 13, jumps.count(5));
    }

    private void countsOfMost() {
        checks.edge(36, "0 CHANNELS, 1 bytes, 2 STORMS, 3 SOUNDED, 4 ODDS");
        DayOldMaps maps = Checks.with("ab9j1;ab9j1;ab9j1;bc9j1;bc9j1;bc9j1;cd9j1;cd9j1;cd9j1;de9j1;de9j1;de9j1;"
            + "ef9j1;ef9j1;ef9j1;ef9j1");
        for (int k = 0; k < 9; k++) maps.storm(k);
        for (int k = 0; k < 13; k++) maps.sounded(k, 0, 0);
        maps.odds(16);
        int[] due = {16, 95, 8, 12, 16, 144, 16, 324, 0};
        for (int what = 0; what < due.length; what++) {
            checks.due("count(" + what + ")", due[what], maps.count(what));
        }
    }

    private void findings() {
        checks.edge(36, "FINDINGS (answers -10 less the number; they change nothing but count() 8)");
        DayOldMaps maps = withTwoRows();
        checks.due("NULL", -10 - 1, maps.lose(3));
        checks.due("1", 1, maps.count(8));
        checks.due("INDEX", -10 - 2, maps.lay(0, 1, 5, 0));
        checks.due("2", 2, maps.count(8));
        checks.due("CAST", -10 - 3, maps.lay(0, 0, 5, 0));
        checks.due("3", 3, maps.count(8));
        checks.due("STORE", -10 - 4, maps.copy(0, 0, 2, 0, 1));
        checks.due("4", 4, maps.count(8));
        checks.due("SIZE", -10 - 5, maps.sheet(0, 0, -1));
        checks.due("5", 5, maps.count(8));
        checks.due("what is well leaves it", 1, maps.lay(0, 1, 0, 0));
        checks.due("5 still", 5, maps.count(8));
        checks.due("what is BAD leaves it", BAD, maps.lay(4, 1, 0, 0));
        checks.due("what is NOT leaves it", DayOldMaps.NOT, maps.undo());
        checks.due("5 still", 5, maps.count(8));
    }

    private static long digestOf(int... told) {
        long h = 17;
        for (int v : told) h = 31 * h + v;
        return h;
    }

    private void digestOfNothing() {
        checks.edge(37, "h is 17; h becomes 31 h and each of");
        int[] counts = {0, 0, 0, 0, 4, 0, 0, 0, NONE};
        int[] ship = {0, NONE, NONE, DayOldMaps.NOT, DayOldMaps.NOT, 0, 1, NONE, 0, 1, NONE, 0};
        int[] draught = {0, 0, BAD, 0};
        int[] told = new int[counts.length + 4 * (1 + 2 * ship.length) + 2 * draught.length];
        int k = 0;
        for (int v : counts) told[k++] = v;
        for (int night = 0; night < 4; night++) {
            told[k++] = NONE;
            for (int v : ship) told[k++] = v;
            for (int v : ship) told[k++] = v;
        }
        for (int v : draught) told[k++] = v;
        for (int v : draught) told[k++] = v;
        checks.due("of a new object", digestOf(told), new DayOldMaps().digest());
        checks.edge(37, "wreck(it, 1, 9) (as it is told)");
        checks.due("no channel 1: BAD", Model.digestOf(Checks.with("af9s1")), Checks.with("af9s1").digest());
        checks.due("a channel 1", Model.digestOf(Checks.with("af9s1;af8s1")), Checks.with("af9s1;af8s1").digest());
    }

    /** Each number that the digest asks by is told apart from those beside it by one of these. */
    private void digestOfMost() {
        checks.edge(37, "as longs that wrap");
        String[] texts = {
            "ab9j1;ab9j1;ab9j1;bc9j1;bc9j1;bc9j1;cd9j1;cd9j1;cd9j1;de9j1;de9j1;de9j1;ef9j1;ef9j1;ef9j1;ef9j1",
            "af7w1;af6r7;af5s9;af4p5;af3j1", "af9j1;af5r9", "af0j1;af4r2", "af8r8;af8r9;ab5r3;bf5r9",
            "ab5w1;bf5r3", "af2j1;af2r9", "af0w1;af0w3", "ac5p7;ce5p3;ef5j1;cf5r5"};
        for (String text : texts) {
            for (int turn = 0; turn < 6; turn++) {
                DayOldMaps maps = Checks.with(text);
                if (turn > 0) maps.storm(new int[] {0, 6, 7, 8, 50}[turn - 1]);
                if (turn > 1) maps.sounded(9, 0, maps.deep(0, 9));
                if (turn > 2) maps.odds(turn * 2);
                long due = Model.digestOf(maps);
                checks.due("digest() of " + text, due, maps.digest());
                checks.due("again", due, maps.digest());
            }
        }
    }
}
