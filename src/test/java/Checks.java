import java.util.Set;
import java.util.TreeSet;

/** Counts checks, and tells those whose answer is not the one that is due. */
final class Checks {
    private int passed;
    private int failed;
    private String part = "";
    private final Set<Integer> promisesWithEdges = new TreeSet<>();

    void begin(String name) {
        part = name;
    }

    /** The checks that follow are of these words of the document, which belong to a promise. */
    void edge(int promise, String words) {
        begin("promise " + promise + ", \"" + words + "\"");
        promisesWithEdges.add(promise);
    }

    boolean hasEdges(int promise) {
        return promisesWithEdges.contains(promise);
    }

    void due(String what, long want, long got) {
        if (want == got) {
            passed++;
            return;
        }
        failed++;
        System.out.println(part + ": " + what + ": answered " + got + ", due is " + want);
    }

    void holds(String what, boolean so) {
        due(what, 1, so ? 1 : 0);
    }

    /** Whether all checks so far have passed; says how many there were. */
    boolean end() {
        System.out.println("checks: " + passed + " passed, " + failed + " failed");
        return failed == 0 && passed > 0;
    }

    /** A new object with this delta. */
    static DayOldMaps with(String text) {
        DayOldMaps maps = new DayOldMaps();
        type(maps, text);
        return maps;
    }

    /** The text of a delta in which one channel stands so many times. */
    static String times(int many, String channel) {
        StringBuilder text = new StringBuilder();
        for (int k = 0; k < many; k++) text.append(k > 0 ? ";" : "").append(channel);
        return text.toString();
    }

    static void type(DayOldMaps maps, String text) {
        for (int i = 0; i < text.length(); i++) maps.type(text.charAt(i));
    }

    /** A sheet becomes a row of a form with these items. */
    static void fill(DayOldMaps maps, int s, int form, int... items) {
        maps.sheet(s, form, items.length);
        for (int i = 0; i < items.length; i++) maps.lay(s, form, i, items[i]);
    }

    /** Numbers that are not among low to high: just outside, a step on, and as far as can be. */
    static int[] outside(int low, int high) {
        return new int[] {-2147483648, low - 2, low - 1, high + 1, high + 2, 2147483647};
    }
}
