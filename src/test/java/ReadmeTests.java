import java.lang.reflect.Method;
import java.nio.file.Files;
import java.nio.file.Path;
import java.util.Set;
import java.util.TreeSet;
import java.util.regex.Matcher;
import java.util.regex.Pattern;

/** The calls that README.md tells, each with the answer that it tells behind it. */
final class ReadmeTests {
    private static final Pattern TYPED = Pattern.compile("for \\(char b : \"(.*)\"\\.toCharArray\\(\\)\\) maps\\.type\\(b\\);");
    private static final Pattern ASKED = Pattern.compile("maps\\.(\\w+)\\((.*)\\);\\s*// (-?\\d+)\\b.*");

    private final Checks checks;
    private final Set<String> told = new TreeSet<>();
    private DayOldMaps maps = new DayOldMaps();

    ReadmeTests(Checks checks) {
        this.checks = checks;
    }

    void run() throws Exception {
        checks.begin("README.md");
        boolean code = false;
        for (String line : Files.readAllLines(Path.of("README.md"))) {
            if (line.startsWith("```")) code = line.equals("```java");
            else if (code) follow(line);
        }
        for (Method method : DayOldMaps.class.getDeclaredMethods()) {
            String name = method.getName();
            boolean hidden = !java.lang.reflect.Modifier.isPublic(method.getModifiers());
            checks.holds(name + " is told", hidden || told.contains(name) || name.equals("digest"));
        }
    }

    private void follow(String line) throws Exception {
        Matcher typed = TYPED.matcher(line);
        Matcher asked = ASKED.matcher(line);
        if (line.equals("DayOldMaps maps = new DayOldMaps();")) {
            maps = new DayOldMaps();
        } else if (typed.matches()) {
            Checks.type(maps, typed.group(1));
        } else if (asked.matches()) {
            checks.due(line, Long.parseLong(asked.group(3)), answer(asked.group(1), asked.group(2)));
        } else {
            checks.holds("understood: " + line, false);
        }
    }

    private long answer(String name, String numbers) throws Exception {
        told.add(name);
        String[] parts = numbers.isEmpty() ? new String[0] : numbers.split(", ");
        Object[] arguments = new Object[parts.length];
        for (int i = 0; i < parts.length; i++) {
            boolean sign = parts[i].startsWith("'");
            arguments[i] = sign ? (int) parts[i].charAt(1) : Integer.parseInt(parts[i]);
        }
        for (Method method : DayOldMaps.class.getMethods()) {
            boolean own = method.getDeclaringClass() == DayOldMaps.class && method.getName().equals(name);
            if (own && method.getParameterCount() == arguments.length) {
                return ((Number) method.invoke(maps, arguments)).longValue();
            }
        }
        checks.holds("there is a call " + name, false);
        return 0;
    }
}
