/** Counts checks, and tells those whose answer is not the one that is due. */
final class Checks {
    private int passed;
    private int failed;
    private String part = "";

    void begin(String name) {
        part = name;
    }

    void due(String what, long want, long got) {
        if (want == got) {
            passed++;
            return;
        }
        failed++;
        System.out.println(part + ": " + what + ": answered " + got + ", due is " + want);
    }

    void holds(String what, boolean so) {
        due(what, 1, so ? 1 : 0);
    }

    /** Whether all checks so far have passed; says how many there were. */
    boolean end() {
        System.out.println("checks: " + passed + " passed, " + failed + " failed");
        return failed == 0 && passed > 0;
    }

    /** A new object with this delta. */
    static DayOldMaps with(String text) {
        DayOldMaps maps = new DayOldMaps();
        type(maps, text);
        return maps;
    }

    static void type(DayOldMaps maps, String text) {
        for (int i = 0; i < text.length(); i++) maps.type(text.charAt(i));
    }

    /** A sheet becomes a row of a form with these items. */
    static void fill(DayOldMaps maps, int s, int form, int... items) {
        maps.sheet(s, form, items.length);
        for (int i = 0; i < items.length; i++) maps.lay(s, form, i, items[i]);
    }
}
