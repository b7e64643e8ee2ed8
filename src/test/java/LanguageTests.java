import java.lang.reflect.Constructor;
import java.lang.reflect.Field;
import java.lang.reflect.Method;
import java.lang.reflect.Modifier;
import java.nio.file.Files;
import java.nio.file.Path;
import java.util.List;
import java.util.Set;
import java.util.TreeSet;
import java.util.regex.Matcher;
import java.util.regex.Pattern;

/** What of LANGUAGE.md can be seen by looking at the class and its text. */
final class LanguageTests {
    private static final String FACE = "byChange byMap calm channel copy count deep digest draft fault"
        + " forget get laws lay lose map next odds read safest saved season sheet sounded storm sure"
        + " tells through type undo waits ways wipe worth wreck write";

    private final Checks checks;

    LanguageTests(Checks checks) {
        this.checks = checks;
    }

    void run() throws Exception {
        face();
        names();
        words(Files.readString(Path.of("src/main/java/DayOldMaps.java")));
        room();
    }

    private void face() {
        checks.begin("rule 1");
        Set<String> methods = new TreeSet<>();
        for (Method method : DayOldMaps.class.getDeclaredMethods()) {
            if (!Modifier.isPrivate(method.getModifiers())) methods.add(method.getName());
        }
        checks.holds("the face is " + methods, String.join(" ", methods).equals(FACE));
        Set<String> fields = new TreeSet<>();
        for (Field field : DayOldMaps.class.getDeclaredFields()) {
            if (!Modifier.isPrivate(field.getModifiers())) fields.add(field.getName());
        }
        checks.holds("the constants are " + fields, fields.equals(Set.of("NONE", "BAD", "NOT", "FULL")));
        for (Constructor<?> made : DayOldMaps.class.getDeclaredConstructors()) {
            checks.holds("the constructor", Modifier.isPublic(made.getModifiers()) && made.getParameterCount() == 0);
        }
        checks.holds("final", Modifier.isFinal(DayOldMaps.class.getModifiers()));
    }

    private void names() {
        Set<String> face = new TreeSet<>(List.of(FACE.split(" ")));
        Class<?>[] inside = DayOldMaps.class.getDeclaredClasses();
        checks.holds("some twelve classes", inside.length < 12);
        for (Class<?> kind : inside) {
            checks.holds(kind + " is static", Modifier.isStatic(kind.getModifiers()));
            looked(kind, face);
        }
        looked(DayOldMaps.class, face);
    }

    private void looked(Class<?> kind, Set<String> face) {
        int fields = 0;
        for (Field field : kind.getDeclaredFields()) {
            boolean constant = Modifier.isStatic(field.getModifiers());
            checks.holds(field + ": static ones are final", !constant || Modifier.isFinal(field.getModifiers()));
            if (!constant) fields++;
        }
        checks.holds("fields of " + kind, fields <= 20);
        for (Method method : kind.getDeclaredMethods()) {
            checks.holds(method + ": parameters", method.getParameterCount() <= 7);
            boolean own = kind == DayOldMaps.class && Modifier.isPublic(method.getModifiers());
            checks.holds(method + ": no name of the face", own || !face.contains(method.getName()));
        }
    }

    private void words(String text) {
        checks.begin("rules 2 to 13");
        String code = text.replaceAll("(?s)/\\*.*?\\*/", "").replaceAll("//[^\\n]*", "");
        String[] forbidden = {"throw", "throws", "try", "catch", "synchronized", "assert", "instanceof", "System\\.(?!arraycopy)",
            "->", "::", "Exact\\(", "equals\\(", "hashCode", "toString", "@", "Random", "Thread", "package ", "String\\.",
            "new (?!Delta\\(|Soundings\\(|Rows\\(|Sheet\\(|Sheet\\[|int\\[)", "import (?!java\\.util\\.Arrays;)"};
        for (String word : forbidden) {
            String whole = word.matches("[a-z]+") ? "\\b" + word + "\\b" : word;
            checks.holds("no " + word, !Pattern.compile(whole).matcher(code).find());
        }
        checks.holds("signs 1 to 127", text.chars().allMatch(c -> c >= 1 && c <= 127));
        Matcher method = Pattern.compile("(?m)^( +)[^\\n=;]*\\) \\{\\n(?:(?!\\1\\}).*\\n)*\\1\\}").matcher(code);
        int seen = 0;
        while (method.find()) {
            seen++;
            checks.holds("sixty lines: " + method.group().lines().findFirst(), method.group().lines().count() <= 60);
        }
        checks.holds("methods were seen", seen > 50);
    }

    /** A call makes nothing, so that 512 of the dearest leave the room as it was. */
    private void room() {
        checks.begin("rule 12");
        com.sun.management.ThreadMXBean threads =
            (com.sun.management.ThreadMXBean) java.lang.management.ManagementFactory.getThreadMXBean();
        DayOldMaps maps = Checks.with("ab9j1;bc9p1;cd9w1;de9s1;ef9j1;af5r2;ac7j3;cf6w4");
        maps.digest();
        long before = threads.getCurrentThreadAllocatedBytes();
        for (int k = 0; k < 512; k++) maps.digest();
        long made = threads.getCurrentThreadAllocatedBytes() - before;
        checks.holds("512 digests make nothing, but " + made + " bytes", made < 20000);
    }
}
