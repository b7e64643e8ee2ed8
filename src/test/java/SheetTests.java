/** Promises 30 to 37: sheets, counts and the digest. */
final class SheetTests {
    private static final int BAD = DayOldMaps.BAD, LEAST = -2147483648;
    private static final int NULL = -11, INDEX = -12, CAST = -13, STORE = -14, SIZE = -15;

    private final Checks checks;

    SheetTests(Checks checks) {
        this.checks = checks;
    }

    void run() {
        sheets();
        losing();
        laying();
        getting();
        copying();
        copyingWithin();
        writing();
        counting();
        digesting();
    }

    private void sheets() {
        checks.begin("promise 30");
        DayOldMaps maps = new DayOldMaps();
        checks.due("sheet 4", BAD, maps.sheet(4, 0, 1));
        checks.due("sheet -1", BAD, maps.sheet(-1, 0, 1));
        checks.due("form 3", BAD, maps.sheet(0, 3, 1));
        checks.due("form -1", BAD, maps.sheet(0, -1, 1));
        checks.due("61 items", BAD, maps.sheet(0, 0, 61));
        checks.due("no finding by these", 0, maps.count(8));
        checks.due("a wrong form ahead of a size", BAD, maps.sheet(0, 3, -1));
        checks.due("-1 items", SIZE, maps.sheet(0, 0, -1));
        checks.due("the finding", 5, maps.count(8));
        checks.due("lost still", NULL, maps.lose(0));
        checks.due("the least int of items", SIZE, maps.sheet(0, 0, LEAST));
        checks.due("60 items", 60, maps.sheet(3, 2, 60));
        maps.lay(3, 2, 59, 77);
        checks.due("refused, it changes nothing", SIZE, maps.sheet(3, 1, -1));
        checks.due("item 59", 77, maps.get(3, 2, 59));
        checks.due("no items", 0, maps.sheet(3, 2, 0));
        checks.due("a new one", 60, maps.sheet(3, 2, 60));
        checks.due("all is 0 at first", 0, maps.get(3, 2, 59));
    }

    private void losing() {
        checks.begin("promise 31");
        DayOldMaps maps = new DayOldMaps();
        checks.due("sheet 4", BAD, maps.lose(4));
        checks.due("sheet -1", BAD, maps.lose(-1));
        checks.due("no finding", 0, maps.count(8));
        checks.due("lost", NULL, maps.lose(0));
        checks.due("the finding", 1, maps.count(8));
        maps.sheet(0, 1, 7);
        maps.sheet(1, 1, 0);
        checks.due("of 7", 7, maps.lose(0));
        checks.due("lost", NULL, maps.lose(0));
        checks.due("of 0", 0, maps.lose(1));
        checks.due("lost", NULL, maps.lose(1));
    }

    private void laying() {
        checks.begin("promise 32");
        DayOldMaps maps = new DayOldMaps();
        checks.due("a lost one", NULL, maps.lay(0, 0, 0, 1));
        for (int form = 0; form < 3; form++) maps.sheet(form, form, 3);
        int[][] due = {{-1, -1, 65535}, {-128, -32640, 98432}, {0, 0, 65536}, {127, 127, 127}};
        int[] laid = {65535, 98432, 65536, 127};
        for (int k = 0; k < laid.length; k++) {
            for (int form = 0; form < 3; form++) {
                checks.due("lay", 1, maps.lay(form, form, 2, laid[k]));
                checks.due("lowest bits of " + laid[k], due[k][form], maps.get(form, form, 2));
            }
        }
        checks.due("sheet 4", BAD, maps.lay(4, 0, 0, 1));
        checks.due("sheet -1", BAD, maps.lay(-1, 0, 0, 1));
        checks.due("form 3", BAD, maps.lay(0, 3, 0, 1));
        checks.due("form -1", BAD, maps.lay(0, -1, 0, 1));
        checks.due("another form", CAST, maps.lay(0, 1, 0, 1));
        checks.due("another form ahead of an index", CAST, maps.lay(0, 1, 9, 1));
        checks.due("the finding", 3, maps.count(8));
        checks.due("item 3", INDEX, maps.lay(0, 0, 3, 1));
        checks.due("the finding", 2, maps.count(8));
        checks.due("item -1", INDEX, maps.lay(0, 0, -1, 1));
        checks.due("a wrong form of a lost one", BAD, maps.lay(3, 3, 0, 1));
        checks.due("any form of a lost one", NULL, maps.lay(3, 0, 9, 1));
        checks.due("the finding", 1, maps.count(8));
    }

    private void getting() {
        checks.begin("promise 33");
        DayOldMaps maps = new DayOldMaps();
        Checks.fill(maps, 0, 2, 5, LEAST, 7);
        checks.due("item 0", 5, maps.get(0, 2, 0));
        checks.due("item 1", LEAST, maps.get(0, 2, 1));
        checks.due("sheet 4", LEAST, maps.get(4, 0, 0));
        checks.due("form 3", LEAST, maps.get(0, 3, 0));
        checks.due("no finding", 0, maps.count(8));
        checks.due("item 3", LEAST, maps.get(0, 2, 3));
        checks.due("INDEX", 2, maps.count(8));
        checks.due("another form", LEAST, maps.get(0, 1, 0));
        checks.due("CAST", 3, maps.count(8));
        checks.due("a lost one", LEAST, maps.get(1, 1, 0));
        checks.due("NULL", 1, maps.count(8));
        checks.due("item -1", LEAST, maps.get(0, 2, -1));
        checks.due("INDEX", 2, maps.count(8));
    }

    private void copying() {
        checks.begin("promise 34");
        DayOldMaps maps = new DayOldMaps();
        Checks.fill(maps, 0, 1, 1, 2, 3, 4);
        Checks.fill(maps, 1, 1, 9, 9, 9);
        Checks.fill(maps, 2, 2, 0);
        checks.due("sheet s", BAD, maps.copy(4, 0, 1, 0, 1));
        checks.due("sheet t", BAD, maps.copy(3, 0, -1, 0, 1));
        checks.due("s is lost", NULL, maps.copy(3, -1, 0, 0, 1));
        checks.due("t is lost", NULL, maps.copy(0, 0, 3, 0, 1));
        checks.due("unlike forms", STORE, maps.copy(0, 9, 2, 9, 1));
        checks.due("the finding", 4, maps.count(8));
        int[][] wrong = {
            {-1, 0, 1}, {0, -1, 1}, {0, 0, -1}, {4, 0, 1}, {3, 0, 2}, {0, 3, 1}, {0, 2, 2}, {0, 0, 4},
            {5, 0, 0}, {0, 4, 0}, {1, 1, 2147483647}, {2147483647, 0, 1}, {0, 2147483647, 1}};
        for (int[] w : wrong) {
            checks.due("i " + w[0] + ", j " + w[1] + ", n " + w[2], INDEX, maps.copy(0, w[0], 1, w[1], w[2]));
        }
        checks.due("the finding", 2, maps.count(8));
        checks.due("nothing has come", 9, maps.get(1, 1, 0));
        checks.due("none, from the ends", 1, maps.copy(0, 4, 1, 3, 0));
        checks.due("two", 1, maps.copy(0, 2, 1, 1, 2));
        int[] due = {9, 3, 4};
        for (int i = 0; i < 3; i++) checks.due("item " + i, due[i], maps.get(1, 1, i));
    }

    private void copyingWithin() {
        int[][] due = {{1, 1, 2, 3, 5}, {2, 3, 4, 4, 5}};
        for (int back = 0; back < 2; back++) {
            DayOldMaps maps = new DayOldMaps();
            Checks.fill(maps, 0, 0, 1, 2, 3, 4, 5);
            checks.due("within", 1, maps.copy(0, back, 0, 1 - back, 3));
            for (int i = 0; i < 5; i++) checks.due("as they were", due[back][i], maps.get(0, 0, i));
        }
    }

    private void writing() {
        checks.begin("promise 35");
        DayOldMaps maps = Checks.with("ab5w1;bf3j1;ac9s1");
        maps.storm(2);
        checks.due("what 2", BAD, maps.write(2, 0, 0));
        checks.due("what -1", BAD, maps.write(-1, 0, 0));
        checks.due("night 100", BAD, maps.write(0, 100, 0));
        checks.due("night -1", BAD, maps.write(0, -1, 0));
        checks.due("sheet 4", BAD, maps.write(0, 0, 4));
        checks.due("no finding", 0, maps.count(8));
        checks.due("a lost one", NULL, maps.write(0, 0, 0));
        Checks.fill(maps, 0, 1, 4, 4, 4, 4);
        int[][] due = {{7, 6, 7, 4}, {6, 3, 8, 4}};
        for (int what = 0; what < 2; what++) {
            checks.due("as many as there are channels", 3, maps.write(what, 2, 0));
            for (int i = 0; i < 4; i++) checks.due("item " + i, due[what][i], maps.get(0, 1, i));
        }
        maps.sheet(1, 0, 2);
        checks.due("as many as there are items", 2, maps.write(0, 2, 1));
        checks.due("item 1", 6, maps.get(1, 0, 1));
        maps.type(';');
        checks.due("no channels with a fault", 0, maps.write(0, 2, 1));
    }

    private void counting() {
        checks.begin("promise 36");
        DayOldMaps maps = Checks.with("ab5w1;bf3j1;af9r9;cf4s1");
        maps.storm(0);
        maps.storm(1);
        maps.sounded(1, 1, 1);
        maps.odds(11);
        maps.lose(0);
        int[] due = {4, 23, 2, 1, 11, 21, 1, 2, 1};
        for (int what = 0; what < due.length; what++) {
            checks.due("count(" + what + ")", due[what], maps.count(what));
        }
        checks.due("count(9)", BAD, maps.count(9));
        checks.due("count(-1)", BAD, maps.count(-1));
        maps.type('x');
        int[] none = {0, 24, 2, 1, 11, 0, 0, 0, 1};
        for (int what = 0; what < none.length; what++) {
            checks.due("count(" + what + ") with a fault", none[what], maps.count(what));
        }
        DayOldMaps most = Checks.with("ab1w1;ab1w1;ab1w1;bc1w1;bc1w1;bc1w1;cd1w1;cd1w1;cd1w1;"
            + "de1w1;de1w1;de1w1;ef1w1;ef1w1;ef1w1;ef1w1");
        checks.due("the most rows", 324, most.count(7));
        checks.due("one that jumps", 1, Checks.with("af1j1").count(6));
        checks.due("channels of depth 0 count", 1, Checks.with("af0s1").count(7));
        checks.due("walking ones of depth 0 count", 1, Checks.with("af0w1").count(7));
    }

    private void digesting() {
        checks.begin("promise 37");
        // Written out by its words; its parts stand in the order told.
        String[] texts = {"", "af5w1", "ab5w2;bf7r3;ac9s1;cf6p2;bc3j4;af2j1", "ab"};
        for (String text : texts) {
            DayOldMaps maps = Checks.with(text);
            maps.storm(7);
            maps.sounded(3, 0, 6);
            long due = Model.digestOf(maps);
            int bytes = maps.count(1);
            checks.due("digest() of " + text, due, maps.digest());
            checks.due("digest() again", due, maps.digest());
            checks.due("it changes nothing", bytes, maps.count(1));
            checks.due("it finds nothing", 0, maps.count(8));
        }
    }
}
