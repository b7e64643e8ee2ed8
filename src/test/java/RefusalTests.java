import java.util.ArrayList;
import java.util.List;

/**
 * "Refusals, the first that fits .. They change nothing (FINDINGS but count() 8)": each call with
 * each number that it may not be told, on an object that has a twin. Then both are asked all that
 * can be asked of them; only the latest finding may differ.
 */
final class RefusalTests {
    private static final int NONE = DayOldMaps.NONE, BAD = DayOldMaps.BAD;
    private static final int NOT = DayOldMaps.NOT, FULL = DayOldMaps.FULL, LEAST = -2147483648;
    /** The finding that each object comes with. */
    private static final int EARLIER = 4;

    private interface Call {
        long on(DayOldMaps maps);
    }

    private interface CallWith {
        long on(DayOldMaps maps, int number);
    }

    private final Checks checks;

    RefusalTests(Checks checks) {
        this.checks = checks;
    }

    void run() {
        refusedDelta();
        refusedWays();
        refusedSoundings();
        refusedChances();
        refusedSheets();
        refusedByFindings();
        refusedForWantOfRoom();
        refusedForWantOfAny();
        questionsChangeNothing();
    }

    private static DayOldMaps rich() {
        DayOldMaps maps = Checks.with("ab5w2;bf7r3;ac9s1;cf6p2;bc3j4;af2j1");
        maps.storm(7);
        maps.storm(0);
        maps.odds(6);
        maps.sounded(4, 0, 7);
        maps.sounded(1, 5, 2);
        Checks.fill(maps, 0, 0, 1, 2, 3, -4);
        Checks.fill(maps, 1, 1, 300, 5, -6);
        Checks.fill(maps, 2, 2, 70000);
        maps.copy(0, 0, 1, 0, 1);
        return maps;
    }

    private static DayOldMaps full() {
        DayOldMaps maps = Checks.with(Checks.times(16, "af4j1"));
        for (int k = 0; k < 8; k++) maps.storm(k * 10);
        for (int k = 0; k < 12; k++) maps.sounded(k, 0, 4);
        Checks.fill(maps, 0, 0, 1, 2, 3);
        Checks.fill(maps, 1, 1, 300, 5, -6);
        maps.copy(0, 0, 1, 0, 1);
        return maps;
    }

    private static DayOldMaps empty() {
        DayOldMaps maps = new DayOldMaps();
        maps.sheet(0, 0, 1);
        maps.sheet(1, 1, 1);
        maps.copy(0, 0, 1, 0, 1);
        return maps;
    }

    /** All that can be asked of an object, the latest finding first. */
    private static List<Long> askedAll(DayOldMaps maps) {
        List<Long> all = new ArrayList<>();
        for (int what = 8; what >= 0; what--) all.add((long) maps.count(what));
        all.add(maps.digest());
        for (int night = 0; night < 100; night++) all.add((long) maps.deep(maps.count(0) - 1, night));
        for (int c = 0; c < maps.count(0); c++) {
            for (int i = 0; i < 36; i += 5) all.add((long) maps.laws(c, i));
        }
        for (int s = 0; s < 4; s++) {
            for (int form = 0; form < 3; form++) {
                for (int i = 0; i < 5; i++) all.add((long) maps.get(s, form, i));
            }
            all.add((long) maps.lose(s));
        }
        for (int k = 0; k < 8; k++) all.add((long) maps.calm());
        all.add((long) maps.forget());
        all.add((long) maps.undo());
        all.add((long) maps.wipe());
        return all;
    }

    private void refused(String what, DayOldMaps maps, DayOldMaps twin, long due, int finding, Call call) {
        checks.due(what, due, call.on(maps));
        List<Long> asked = askedAll(maps), ofTwin = askedAll(twin);
        checks.due(what + ": the latest finding", finding, asked.remove(0));
        ofTwin.remove(0);
        checks.holds(what + ": it changes nothing", asked.equals(ofTwin));
    }

    private void bad(String what, int[] numbers, long due, CallWith call) {
        for (int number : numbers) {
            refused(what + " " + number, rich(), rich(), due, EARLIER, maps -> call.on(maps, number));
        }
    }

    private void bad(String what, int low, int high, CallWith call) {
        bad(what, Checks.outside(low, high), BAD, call);
    }

    private void refusedDelta() {
        checks.begin("promises 2 to 11, BAD changes nothing");
        bad("type", 0, 255, (maps, v) -> maps.type(v));
        bad("channel, channel", 0, 5, (maps, v) -> maps.channel(v, 0));
        bad("channel, what", 0, 4, (maps, v) -> maps.channel(0, v));
        bad("storm", 0, 99, (maps, v) -> maps.storm(v));
        bad("odds", 0, 16, (maps, v) -> maps.odds(v));
        bad("deep, channel", 0, 5, (maps, v) -> maps.deep(v, 0));
        bad("deep, night", 0, 99, (maps, v) -> maps.deep(0, v));
        bad("map, channel", 0, 5, (maps, v) -> maps.map(v, 0));
        bad("map, night", 0, 99, (maps, v) -> maps.map(0, v));
    }

    private void refusedWays() {
        checks.begin("promises 12 to 17, BAD changes nothing");
        bad("ways, draught", 1, 9, (maps, v) -> maps.ways(v, 0, 0));
        bad("ways, night", 0, 99, (maps, v) -> maps.ways(1, v, 0));
        bad("ways, i", -1, 4, (maps, v) -> maps.ways(1, 0, v));
        bad("draft", 0, 99, (maps, v) -> maps.draft(v));
        bad("waits, draught", 1, 9, (maps, v) -> maps.waits(v, 0));
        bad("waits, night", 0, 99, (maps, v) -> maps.waits(1, v));
        bad("byMap, draught", 1, 9, (maps, v) -> maps.byMap(v, 0));
        bad("byMap, night", 0, 99, (maps, v) -> maps.byMap(1, v));
        bad("byChange, draught", 1, 9, (maps, v) -> maps.byChange(v, 0));
        bad("byChange, night", 0, 99, (maps, v) -> maps.byChange(1, v));
        bad("saved, draught", 1, 9, (maps, v) -> maps.saved(v, 0));
        bad("saved, what", 0, 1, (maps, v) -> maps.saved(1, v));
    }

    private void refusedSoundings() {
        checks.begin("promises 18 to 24, BAD changes nothing");
        bad("sounded, night", 0, 99, (maps, v) -> maps.sounded(v, 0, 0));
        bad("sounded, channel", 0, 15, (maps, v) -> maps.sounded(0, v, 0));
        bad("sounded, deep", 0, 9, (maps, v) -> maps.sounded(0, 0, v));
        bad("read", 0, 3, (maps, v) -> maps.read(v));
        bad("laws, channel", 0, 5, (maps, v) -> maps.laws(v, 0));
        bad("laws, i", -1, 35, (maps, v) -> maps.laws(0, v));
        bad("next, channel", 0, 5, (maps, v) -> maps.next(v, 0));
        bad("next, night", 0, 99, (maps, v) -> maps.next(0, v));
        bad("tells, channel", 0, 5, (maps, v) -> maps.tells(v, 0));
        bad("tells, night", 0, 99, (maps, v) -> maps.tells(0, v));
        bad("wreck, draught", 1, 9, (maps, v) -> maps.wreck(v, 0, 0));
        bad("wreck, channel", 0, 5, (maps, v) -> maps.wreck(1, v, 0));
        bad("wreck, night", 0, 99, (maps, v) -> maps.wreck(1, 0, v));
    }

    private void refusedChances() {
        checks.begin("promises 25 to 29, BAD changes nothing");
        bad("through, draught", 1, 9, (maps, v) -> maps.through(v, 0, 0));
        bad("through, night", 0, 99, (maps, v) -> maps.through(1, v, 0));
        bad("through, what", 0, 1, (maps, v) -> maps.through(1, 0, v));
        bad("sure, draught", 1, 9, (maps, v) -> maps.sure(v, 0, 0));
        bad("sure, night", 0, 99, (maps, v) -> maps.sure(1, v, 0));
        bad("sure, i", 0, 4, (maps, v) -> maps.sure(1, 0, v));
        bad("safest, draught", 1, 9, (maps, v) -> maps.safest(v, 0, 0));
        bad("safest, night", 0, 99, (maps, v) -> maps.safest(1, v, 0));
        bad("safest, i", -2, 4, (maps, v) -> maps.safest(1, 0, v));
        bad("worth, draught", Checks.outside(1, 9), -102, (maps, v) -> maps.worth(v, 0));
        bad("worth, night", Checks.outside(0, 99), -102, (maps, v) -> maps.worth(1, v));
        bad("season, draught", 1, 9, (maps, v) -> maps.season(1, v, 0, 1));
        bad("season, night", 0, 99, (maps, v) -> maps.season(1, 1, v, 1));
        bad("season, n", 0, 40, (maps, v) -> maps.season(1, 1, 0, v));
    }

    private void refusedSheets() {
        checks.begin("promises 30 to 36, BAD changes nothing");
        bad("sheet, s", 0, 3, (maps, v) -> maps.sheet(v, 0, 1));
        bad("sheet, form", 0, 2, (maps, v) -> maps.sheet(0, v, 1));
        bad("sheet, n", new int[] {61, 62, 2147483647}, BAD, (maps, v) -> maps.sheet(0, 0, v));
        bad("lose", 0, 3, (maps, v) -> maps.lose(v));
        bad("lay, s", 0, 3, (maps, v) -> maps.lay(v, 0, 0, 9));
        bad("lay, form", 0, 2, (maps, v) -> maps.lay(0, v, 0, 9));
        bad("get, s", Checks.outside(0, 3), LEAST, (maps, v) -> maps.get(v, 0, 0));
        bad("get, form", Checks.outside(0, 2), LEAST, (maps, v) -> maps.get(0, v, 0));
        bad("copy, s", 0, 3, (maps, v) -> maps.copy(v, 0, 0, 0, 1));
        bad("copy, t", 0, 3, (maps, v) -> maps.copy(0, 0, v, 0, 1));
        bad("write, what", 0, 1, (maps, v) -> maps.write(v, 0, 0));
        bad("write, night", 0, 99, (maps, v) -> maps.write(0, v, 0));
        bad("write, s", 0, 3, (maps, v) -> maps.write(0, 0, v));
        bad("count", 0, 8, (maps, v) -> maps.count(v));
    }

    private void found(String what, int finding, long due, Call call) {
        refused(what, rich(), rich(), due, finding, call);
    }

    private void refusedByFindings() {
        checks.begin("promises 20 and 30 to 35, findings change nothing but count() 8");
        found("read, NULL", 1, -11, maps -> maps.read(3));
        found("lose, NULL", 1, -11, maps -> maps.lose(3));
        found("lay, NULL", 1, -11, maps -> maps.lay(3, 0, 0, 9));
        found("get, NULL", 1, LEAST, maps -> maps.get(3, 0, 0));
        found("copy, NULL s", 1, -11, maps -> maps.copy(3, 0, 0, 0, 1));
        found("copy, NULL t", 1, -11, maps -> maps.copy(0, 0, 3, 0, 1));
        found("write, NULL", 1, -11, maps -> maps.write(0, 0, 3));
        found("lay, INDEX", 2, -12, maps -> maps.lay(0, 0, 4, 9));
        found("lay, INDEX below 0", 2, -12, maps -> maps.lay(0, 0, -1, 9));
        found("get, INDEX", 2, LEAST, maps -> maps.get(0, 0, 4));
        found("copy, INDEX", 2, -12, maps -> maps.copy(0, 2, 0, 0, 3));
        found("copy, INDEX below 0", 2, -12, maps -> maps.copy(0, 0, 0, 0, -1));
        found("lay, CAST", 3, -13, maps -> maps.lay(0, 2, 0, 9));
        found("get, CAST", 3, LEAST, maps -> maps.get(0, 2, 0));
        found("copy, STORE", 4, -14, maps -> maps.copy(2, 0, 0, 0, 1));
        found("sheet, SIZE", 5, -15, maps -> maps.sheet(0, 0, -1));
        found("sheet, SIZE of a lost one", 5, -15, maps -> maps.sheet(3, 0, -1));
    }

    private void refusedForWantOfRoom() {
        checks.begin("promises 2, 7 and 18, FULL changes nothing");
        refused("type", full(), full(), FULL, EARLIER, maps -> maps.type(';'));
        refused("storm", full(), full(), FULL, EARLIER, maps -> maps.storm(5));
        refused("sounded", full(), full(), FULL, EARLIER, maps -> maps.sounded(1, 0, 9));
        refused("read with no room", full(), full(), 0, EARLIER, maps -> maps.read(0));
        refused("type, BAD first", full(), full(), BAD, EARLIER, maps -> maps.type(256));
        refused("storm, BAD first", full(), full(), BAD, EARLIER, maps -> maps.storm(100));
        refused("sounded, BAD first", full(), full(), BAD, EARLIER, maps -> maps.sounded(100, 0, 0));
    }

    private void refusedForWantOfAny() {
        checks.begin("promises 4, 8, 15 and 16, NOT changes nothing");
        refused("undo", empty(), empty(), NOT, EARLIER, maps -> maps.undo());
        refused("calm", empty(), empty(), NOT, EARLIER, maps -> maps.calm());
        refused("byMap", empty(), empty(), NOT, EARLIER, maps -> maps.byMap(1, 1));
        refused("byChange", empty(), empty(), NOT, EARLIER, maps -> maps.byChange(1, 1));
        refused("byMap of 9", rich(), rich(), NOT, EARLIER, maps -> maps.byMap(9, 12));
        refused("byMap, BAD first", empty(), empty(), BAD, EARLIER, maps -> maps.byMap(0, 1));
        refused("byChange, BAD first", empty(), empty(), BAD, EARLIER, maps -> maps.byChange(1, 100));
        DayOldMaps faulty = rich(), twin = rich();
        faulty.type('?');
        twin.type('?');
        refused("undo with a fault", faulty, twin, NOT, EARLIER, maps -> maps.undo());
    }

    private void asked(String what, Call call) {
        DayOldMaps other = rich();
        refused(what, rich(), rich(), call.on(other), EARLIER, call);
    }

    private void questionsChangeNothing() {
        checks.begin("promises 5, 6, 10 to 17, 21 to 29, 33, 36 and 37, asking changes nothing");
        asked("fault", DayOldMaps::fault);
        asked("channel", maps -> maps.channel(0, 2));
        asked("deep", maps -> maps.deep(0, 9));
        asked("map", maps -> maps.map(0, 9));
        asked("ways", maps -> maps.ways(2, 7, NONE));
        asked("draft", maps -> maps.draft(7));
        asked("waits", maps -> maps.waits(9, 1));
        asked("byMap", maps -> maps.byMap(2, 1));
        asked("byChange", maps -> maps.byChange(2, 1));
        asked("saved", maps -> maps.saved(2, 0));
        asked("laws", maps -> maps.laws(0, NONE));
        asked("next", maps -> maps.next(0, 9));
        asked("tells", maps -> maps.tells(0, 9));
        asked("wreck", maps -> maps.wreck(2, 1, 9));
        asked("through", maps -> maps.through(2, 1, 0));
        asked("sure", maps -> maps.sure(2, 1, 0));
        asked("safest", maps -> maps.safest(2, 1, -2));
        asked("worth", maps -> maps.worth(2, 1));
        asked("season", maps -> maps.season(7, 2, 1, 20));
        asked("get", maps -> maps.get(0, 0, 3));
        asked("count", maps -> maps.count(5));
        asked("digest", DayOldMaps::digest);
    }
}
