import java.lang.reflect.Method;
import java.nio.file.Files;
import java.nio.file.Path;
import java.util.Arrays;
import java.util.Set;
import java.util.TreeSet;
import java.util.regex.Matcher;
import java.util.regex.Pattern;

/** README.md: each line of code has the answer that stands behind it, and every call of the face is shown. */
public final class ReadmeTest {
    private static final Pattern TELLS =
        Pattern.compile("for \\(char letter : \"(\\w+)\"\\.toCharArray\\(\\)\\) watch\\.write\\(letter\\);");
    private static final Pattern ASKS =
        Pattern.compile("watch\\.(\\w+)\\(([^)]*)\\);\\s+// (-?\\d+)( \\((\\w+)\\))?(:.*)?");
    private static final int FEWEST = 40;

    private static int wrong = 0;
    private static int asked = 0;
    private static final Set<String> shown = new TreeSet<>();
    private static LockWatch watch;

    private static void check(String what, boolean ok) {
        if (!ok) {
            wrong++;
            System.out.println("README.md: " + what);
        }
    }

    private static Method methodOf(String name) {
        for (Method m : LockWatch.class.getDeclaredMethods()) {
            if (m.getName().equals(name)) {
                return m;
            }
        }
        return null;
    }

    private static Object[] figures(Method m, String told) {
        String[] parts = told.isBlank() ? new String[0] : told.split(", ");
        Class<?>[] types = m.getParameterTypes();
        if (parts.length != types.length) {
            return null;
        }
        Object[] all = new Object[parts.length];
        for (int i = 0; i < parts.length; i++) {
            if (types[i] == boolean.class) {
                all[i] = Boolean.valueOf(parts[i]);
            } else if (types[i] == long.class) {
                all[i] = Long.valueOf(parts[i]);
            } else {
                all[i] = Integer.valueOf(parts[i]);
            }
        }
        return all;
    }

    private static void ask(String line, Matcher asks) throws Exception {
        Method m = methodOf(asks.group(1));
        Object[] with = m == null ? null : figures(m, asks.group(2));
        if (with == null) {
            check("no such call: " + line, false);
            return;
        }
        shown.add(m.getName());
        asked++;
        long got = ((Number) m.invoke(watch, with)).longValue();
        long due = Long.parseLong(asks.group(3));
        check("answered " + got + ": " + line, got == due);
        if (asks.group(5) != null) {
            check("another constant: " + line, LockWatch.class.getField(asks.group(5)).getInt(null) == due);
        }
    }

    private static void run(String line) throws Exception {
        Matcher tells = TELLS.matcher(line);
        Matcher asks = ASKS.matcher(line);
        if (line.equals("LockWatch watch = new LockWatch();")) {
            watch = new LockWatch();
        } else if (watch != null && tells.matches()) {
            shown.add("write");
            tells.group(1).chars().forEach(watch::write);
        } else if (watch != null && asks.matches()) {
            ask(line, asks);
        } else {
            check("not understood: " + line, false);
        }
    }

    /** The table of refusals has each constant with its number. */
    private static void table(String all) throws Exception {
        for (String name : Arrays.asList("UNKNOWN", "OUTSIDE", "STATE", "FULL", "NONE")) {
            int number = LockWatch.class.getField(name).getInt(null);
            check("no row for " + name, all.contains("| " + number + " | `" + name + "` |"));
        }
    }

    public static void main(String[] args) throws Exception {
        String all = Files.readString(Path.of("README.md"));
        Matcher block = Pattern.compile("(?s)```java\n(.*?)```").matcher(all);
        while (block.find()) {
            for (String line : block.group(1).split("\n")) {
                run(line);
            }
        }
        for (Method m : LockWatch.class.getDeclaredMethods()) {
            if (java.lang.reflect.Modifier.isPublic(m.getModifiers())) {
                check("does not show " + m.getName(), shown.contains(m.getName()));
            }
        }
        table(all);
        check("shows few calls", asked >= FEWEST);
        System.out.println(wrong == 0 ? asked + " lines of README.md are as due" : wrong + " things are not as due");
        if (wrong != 0) {
            System.exit(1);
        }
    }
}
