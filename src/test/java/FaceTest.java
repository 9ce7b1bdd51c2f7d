import java.lang.management.ManagementFactory;
import java.lang.reflect.Constructor;
import java.lang.reflect.Field;
import java.lang.reflect.Method;
import java.lang.reflect.Modifier;
import java.nio.file.Files;
import java.nio.file.Path;
import java.util.Arrays;
import java.util.Set;
import java.util.TreeSet;
import java.util.regex.Matcher;
import java.util.regex.Pattern;

/** The document's face, what LANGUAGE.md says of the source (as far as letters show it), and that calls make no objects. */
public final class FaceTest {
    private static int wrong = 0;

    private static void check(String what, boolean ok) {
        if (!ok) {
            wrong++;
            System.out.println("not as due: " + what);
        }
    }

    private static final String[] METHODS = {"int write(int)", "int wipe()", "int fault()", "int trace()",
        "int step(int,int)", "int drop(int)", "int swap(int)", "int undo()", "int cell(int,int,int)",
        "int ahead(int,int)", "int meetings(int,int)", "int edges(int)", "int rings(int,int)", "int first()",
        "int judge(int,long)", "int see(int,int,int)", "int unsee()", "int which(int)", "int share(int,boolean)",
        "int lost(int,int,boolean)", "long seed(long)", "int drawn(int)", "int keep(int)", "int again(int)",
        "int count(int)"};

    private static String told(Method m) {
        StringBuilder all = new StringBuilder();
        for (Class<?> c : m.getParameterTypes()) {
            all.append(all.length() == 0 ? "" : ",").append(c.getName());
        }
        return m.getReturnType().getName() + " " + m.getName() + "(" + all + ")";
    }

    private static void face() throws Exception {
        Class<?> c = LockWatch.class;
        check("public final class", Modifier.isPublic(c.getModifiers()) && Modifier.isFinal(c.getModifiers()));
        Set<String> methods = new TreeSet<>();
        Set<String> names = new TreeSet<>();
        for (Method m : c.getDeclaredMethods()) {
            if (Modifier.isPublic(m.getModifiers())) {
                methods.add(told(m));
                names.add(m.getName());
                check("not static: " + m, !Modifier.isStatic(m.getModifiers()));
            }
        }
        check("the methods: " + methods, methods.equals(new TreeSet<>(Arrays.asList(METHODS))));
        Set<String> fields = new TreeSet<>();
        for (Field f : c.getDeclaredFields()) {
            if (Modifier.isPublic(f.getModifiers())) {
                check("constant: " + f, Modifier.isStatic(f.getModifiers()) && Modifier.isFinal(f.getModifiers())
                    && f.getType() == int.class);
                fields.add(f.getName() + f.getInt(null));
            }
        }
        check("the constants: " + fields,
            fields.equals(Set.of("UNKNOWN-1", "OUTSIDE-2", "STATE-3", "FULL-4", "NONE-9")));
        Constructor<?>[] made = c.getDeclaredConstructors();
        check("one public constructor", made.length == 1 && Modifier.isPublic(made[0].getModifiers())
            && made[0].getParameterCount() == 0);
        hidden(c, names);
    }

    private static void hidden(Class<?> c, Set<String> names) {
        for (Method m : c.getDeclaredMethods()) {
            int how = m.getModifiers();
            check("public or private: " + m, Modifier.isPublic(how) || Modifier.isPrivate(how));
            check("a name of its own: " + m, Modifier.isPublic(how) || !names.contains(m.getName()));
        }
        for (Field f : c.getDeclaredFields()) {
            int how = f.getModifiers();
            check("public or private: " + f, Modifier.isPublic(how) || Modifier.isPrivate(how));
        }
        Class<?>[] inside = c.getDeclaredClasses();
        check("some twelve classes at most", inside.length <= 11);
        for (Class<?> k : inside) {
            check("static: " + k, Modifier.isStatic(k.getModifiers()) && !Modifier.isPublic(k.getModifiers()));
            int fields = 0;
            for (Field f : k.getDeclaredFields()) {
                int how = f.getModifiers();
                check("static ones are final: " + f, !Modifier.isStatic(how) || Modifier.isFinal(how));
                fields += Modifier.isStatic(how) ? 0 : 1;
            }
            check("some twenty fields at most: " + k, fields <= 20);
            for (Method m : k.getDeclaredMethods()) {
                check("a name of its own: " + m, !names.contains(m.getName()));
                check("seven parameters at most: " + m, m.getParameterCount() <= 7);
            }
        }
    }

    private static void source() throws Exception {
        String all = Files.readString(Path.of("src/main/java/LockWatch.java"));
        check("signs 1 to 127", all.chars().allMatch(ch -> ch > 0 && ch < 128));
        String code = all.replaceAll("(?s)/\\*.*?\\*/", "").replaceAll("//[^\n]*", "");
        Matcher word = Pattern.compile("\\b(throw|throws|try|catch|finally|synchronized|assert|package|var|record|"
            + "Object|Exception|hashCode|toString|Random|Thread|System\\.(?!arraycopy)\\w+|\\w+Exact|->|::)\\b|->|::")
            .matcher(code);
        while (word.find()) {
            check("no " + word.group(), false);
        }
        Matcher imports = Pattern.compile("import [^;]*;").matcher(code);
        while (imports.find()) {
            check(imports.group(), imports.group().equals("import java.util.Arrays;"));
        }
        Matcher unbound = Pattern.compile("while \\(true\\)|for \\(;;|for \\(;").matcher(code);
        check("each loop has its end", !unbound.find());
        methodLengths(all.split("\n"));
    }

    private static void methodLengths(String[] lines) {
        int begun = -1;
        String indent = "";
        for (int i = 0; i < lines.length; i++) {
            Matcher head = Pattern.compile("^( {4}| {8})(?! )[\\w\\[\\] ]+\\(.*\\{$")
                .matcher(lines[i]);
            if (begun < 0 && head.find()) {
                begun = i;
                indent = head.group(1);
            } else if (begun >= 0 && lines[i].equals(indent + "}")) {
                check("some sixty lines at most: " + lines[begun].trim(), i - begun < 60);
                begun = -1;
            }
        }
    }

    private static long sum = 0;

    private static void manyCalls(LockWatch x) {
        for (char c : "T0f10f20f30lA0lB0uB0uA1lB1lA1uA1uB2wa3wa2wb3ra".toCharArray()) {
            sum += x.write(c);
        }
        sum += x.trace() + x.keep(0);
        for (int i = 0; i < 15; i++) {
            sum += x.fault() + x.step(i, 3) + x.swap(i) + x.drop(i) + x.undo() + x.cell(0, 5, 3) + x.ahead(i, 3);
            sum += x.meetings(0, 1) + x.edges(i) + x.rings(2, 3) + x.first() + x.judge(4, 5001500150015001L);
            sum += x.see(0, 3, 1) + x.which(0) + x.unsee() + x.share(0, true) + x.lost(0, 3, true) + x.seed(i);
            sum += x.drawn(20) + x.keep(1) + x.again(0) + x.count(5) + x.count(6);
        }
    }

    private static void room() {
        com.sun.management.ThreadMXBean bean = (com.sun.management.ThreadMXBean) ManagementFactory.getThreadMXBean();
        long me = Thread.currentThread().getId();
        LockWatch[] all = new LockWatch[40];
        for (int i = 0; i < all.length; i++) {
            all[i] = new LockWatch();
        }
        manyCalls(all[0]);
        long before = bean.getThreadAllocatedBytes(me);
        for (int i = 1; i < all.length; i++) {
            manyCalls(all[i]);
        }
        long bytes = bean.getThreadAllocatedBytes(me) - before;
        check("calls make no objects: " + bytes + " bytes in 39 runs", bytes < 39 * 1000);
        before = bean.getThreadAllocatedBytes(me);
        sum += new LockWatch().count(1);
        check("a new object is small", bean.getThreadAllocatedBytes(me) - before < 20000);
    }

    public static void main(String[] args) throws Exception {
        face();
        source();
        room();
        System.out.println(wrong == 0 ? "the face and the source are as due" : wrong + " things are not as due");
        if (wrong != 0) {
            System.exit(1);
        }
    }
}
