import java.io.IOException;
import java.lang.reflect.InvocationTargetException;
import java.lang.reflect.Method;
import java.nio.file.Files;
import java.nio.file.Path;
import java.util.ArrayList;
import java.util.HashMap;
import java.util.List;
import java.util.Map;
import java.util.Set;
import java.util.TreeSet;
import java.util.stream.Stream;

/**
 * The document's boundary sentences, each with a test of its own: the files of src/test/bounds (see how.md there).
 *
 * <p>Besides the answer of each row: what a call does not change has to be as if it had not been called, and one that is
 * refused, or that only asks, changes nothing. For that, probes are put to two new objects, which have the same calls
 * behind them but for that one.
 */
public final class BoundsTest {
    /** What calls an object is used for at most. */
    private static final int MOST_CALLS = 512;
    private static final Map<String, Long> NAMES = Map.of("UNKNOWN", -1L, "OUTSIDE", -2L, "STATE", -3L, "FULL", -4L,
        "NONE", -9L);
    private static final Map<String, Method> METHODS = new HashMap<>();
    private static final Map<String, Call> KNOWN = new HashMap<>();

    private static int wrong = 0;
    private static int sentences = 0;
    private static int answers = 0;
    private static int unchanged = 0;

    // ---- calls

    private record Call(String told, Method method, Object[] args) {
        long on(LockWatch x) {
            try {
                return ((Number) method.invoke(x, args)).longValue();
            } catch (InvocationTargetException e) {
                throw new IllegalStateException(told + " threw " + e.getCause());
            } catch (IllegalAccessException e) {
                throw new IllegalStateException(e);
            }
        }
    }

    /** A call and its answer; it is asked for itself, or it only leads up to what is asked. */
    private record Row(Call call, long due, String place, boolean leadsUp) {
        boolean changesNothing() {
            return changes().isEmpty();
        }

        /** What the call may change, if the document's answer is given. */
        Set<Part> changes() {
            String name = call.method.getName();
            boolean refused = due < 0 && due >= -4 && !name.equals("seed");
            if (refused) {
                return Set.of();
            }
            return switch (name) {
                case "write", "wipe" -> Set.of(Part.TEXT);
                case "trace" -> Set.of(Part.STEPS, Part.ACTS, Part.SLOT_0, Part.SLOT_1);
                case "drop", "swap", "undo", "again" -> Set.of(Part.STEPS, Part.ACTS);
                case "see", "unsee" -> Set.of(Part.SEEN);
                case "seed", "drawn" -> Set.of(Part.SEED);
                case "keep" -> Set.of((Integer) call.args[0] == 0 ? Part.SLOT_0 : Part.SLOT_1);
                default -> Set.of();
            };
        }
    }

    /** What an object holds. */
    private enum Part { TEXT, STEPS, ACTS, SLOT_0, SLOT_1, SEEN, SEED }

    /** Calls whose answers show one part (those of the acts go by the steps, too), behind others that lead up to them. */
    private record Probe(Part part, List<Call> lead, List<Call> asked) {
        Probe(Part part, List<Call> asked) {
            this(part, List.of(), asked);
        }
    }

    private static Object argument(String told, Class<?> type) {
        if (type == boolean.class) {
            return switch (told) {
                case "true" -> true;
                case "false" -> false;
                default -> throw new IllegalStateException("not a boolean: " + told);
            };
        }
        boolean isLong = type == long.class;
        long value = switch (told) {
            case "least" -> isLong ? Long.MIN_VALUE : Integer.MIN_VALUE;
            case "most" -> isLong ? Long.MAX_VALUE : Integer.MAX_VALUE;
            default -> told.startsWith("'") ? told.charAt(1) : Long.parseLong(told);
        };
        return isLong ? (Object) value : (Object) Math.toIntExact(value);
    }

    private static Call call(String told) {
        return KNOWN.computeIfAbsent(told, BoundsTest::parseCall);
    }

    private static Call parseCall(String told) {
        int open = told.indexOf('(');
        Method method = METHODS.get(told.substring(0, open));
        String inside = told.substring(open + 1, told.length() - 1);
        String[] parts = inside.isEmpty() ? new String[0] : inside.split(", ");
        Class<?>[] types = method.getParameterTypes();
        if (parts.length != types.length) {
            throw new IllegalStateException("not as many arguments: " + told);
        }
        Object[] args = new Object[parts.length];
        for (int i = 0; i < args.length; i++) {
            args[i] = argument(parts[i], types[i]);
        }
        return new Call(told, method, args);
    }

    // ---- one sentence

    private static String place;
    private static final List<Row> rows = new ArrayList<>();

    private static void fail(String where, String what) {
        wrong++;
        if (wrong <= 60) {
            System.out.println(where + ": " + what);
        }
    }

    private static void row(String told, long due) {
        rows.add(new Row(call(told), due, place, false));
    }

    private static void leadingRow(String told, long due) {
        rows.add(new Row(call(told), due, place, true));
    }

    private static LockWatch replayed(List<Row> past) {
        LockWatch x = new LockWatch();
        for (Row r : past) {
            r.call.on(x);
        }
        return x;
    }

    private static void runRows() {
        checkAnswers();
        Set<String> done = new TreeSet<>();
        for (int i = 0; i < rows.size(); i++) {
            Row r = rows.get(i);
            boolean once = done.add(lastChange(i) + r.call.told);
            if (once && !r.leadsUp) {
                checkUnchanged(rows.subList(0, i), r);
            }
        }
        rows.clear();
    }

    private static void checkAnswers() {
        LockWatch x = new LockWatch();
        if (rows.size() > MOST_CALLS) {
            fail(place, "more than 512 calls of one object");
        }
        for (Row r : rows) {
            long got = r.call.on(x);
            answers++;
            if (got != r.due) {
                fail(r.place, r.call.told + " answered " + got + ", due is " + r.due);
                break;
            }
        }
    }

    /** How many rows are up to the last one that changes something, so that the same call in the same state is looked at once. */
    private static int lastChange(int before) {
        for (int i = before; i > 0; i--) {
            if (!rows.get(i - 1).changesNothing()) {
                return i;
            }
        }
        return 0;
    }

    private static void checkUnchanged(List<Row> past, Row r) {
        List<Row> changes = new ArrayList<>();
        for (Row p : past) {
            if (!p.changesNothing()) {
                changes.add(p);
            }
        }
        LockWatch x = replayed(changes);
        int n = (int) call("count(1)").on(x);
        int acts = (int) call("count(7)").on(x);
        Set<Part> changed = r.changes();
        for (Probe probe : probes(n, acts)) {
            if (changed.contains(probe.part)) {
                continue;
            }
            unchanged++;
            if (changes.size() + 1 + probe.lead.size() + probe.asked.size() > MOST_CALLS) {
                fail(r.place, "more than 512 calls of one object, with a probe");
            }
            LockWatch with = replayed(changes);
            r.call.on(with);
            compare(r, probe, with, replayed(changes));
        }
    }

    private static void compare(Row r, Probe probe, LockWatch with, LockWatch without) {
        for (Call p : probe.lead) {
            p.on(with);
            p.on(without);
        }
        for (Call p : probe.asked) {
            long got = p.on(with);
            long want = p.on(without);
            if (got != want) {
                fail(r.place, "behind " + r.call.told + " " + p.told + " answers " + got + ", without it " + want);
                return;
            }
            // what is asked then would not be of the text, or of the slot, but of the steps that are there
            boolean noSteps = p.told.equals("trace()") || p.told.startsWith("again");
            if (noSteps && got < 0) {
                return;
            }
        }
    }

    // ---- probes: together they show all that an object holds

    private static final Map<String, List<Probe>> PROBES = new HashMap<>();

    private static List<Probe> probes(int n, int acts) {
        return PROBES.computeIfAbsent(n + " " + acts, key -> makeProbes(n, acts));
    }

    private static List<Probe> makeProbes(int n, int acts) {
        List<Probe> all = new ArrayList<>();
        addStepsProbes(all, n);
        for (int k = 0; k <= acts + 1; k++) {
            all.add(new Probe(Part.ACTS, of("undo() ".repeat(k) + "count(7)")));
            all.add(new Probe(Part.ACTS, stepsProbe("undo() ".repeat(k), 20, 3)));
        }
        all.add(new Probe(Part.SLOT_0, stepsProbe("again(0)", 20, 3)));
        all.add(new Probe(Part.SLOT_1, stepsProbe("again(1)", 20, 3)));
        all.add(new Probe(Part.SEED, of("seed(0) seed(0)")));
        for (String letters : new String[] {"", "A", "a", "1", "lA", "ra", "f1", "0ra", "T0ra"}) {
            all.add(new Probe(Part.TEXT, textProbe(letters)));
        }
        all.add(seenProbe());
        return all;
    }

    private static void addStepsProbes(List<Probe> all, int n) {
        all.add(new Probe(Part.STEPS, wholeProbe()));
        all.add(new Probe(Part.STEPS, of("seed(5)"), of("drawn(20) seed(0)")));
        all.add(new Probe(Part.STEPS, stepsProbe("", n, 5)));
        for (int cell = 0; cell < 4; cell++) {
            all.add(new Probe(Part.STEPS, cellProbe(cell, n)));
        }
        all.add(new Probe(Part.STEPS, aheadProbe(0, n / 2, n)));
        all.add(new Probe(Part.STEPS, aheadProbe(n / 2, n, n)));
    }

    private static List<Call> of(String told) {
        List<Call> all = new ArrayList<>();
        for (String one : told.split(" ")) {
            if (!one.isEmpty()) {
                all.add(call(one.replace(",", ", ")));
            }
        }
        return all;
    }

    private static void ask(List<Call> all, String name, int... mosts) {
        StringBuilder told = new StringBuilder();
        int[] at = new int[mosts.length];
        for (boolean more = true; more;) {
            told.setLength(0);
            for (int i = 0; i < at.length; i++) {
                told.append(i == 0 ? "" : ", ").append(at[i]);
            }
            all.add(call(name + "(" + told + ")"));
            int i = at.length - 1;
            while (i >= 0 && ++at[i] > mosts[i]) {
                at[i--] = 0;
            }
            more = i >= 0;
        }
    }

    private static List<Call> wholeProbe() {
        List<Call> all = of("first() count(1) count(2) count(3) count(4) count(5) count(6)");
        ask(all, "edges", 16);
        ask(all, "meetings", 3, 1);
        for (int i = 0; i < 4; i++) {
            all.addAll(of("rings(2," + i + ") rings(3," + i + ") rings(4," + i + ")"));
            all.addAll(of("share(" + i + ",true) share(" + i + ",false)"));
            all.addAll(of("lost(" + i + ",3,true) lost(" + i + ",3,false)"));
            all.addAll(of("judge(1,3" + i + "00) judge(1,3" + i + "01) judge(1,4" + i + "00) judge(1,500" + i + ")"));
        }
        return all;
    }

    private static List<Call> stepsProbe(String ahead, int n, int parts) {
        List<Call> all = of(ahead);
        all.add(call("count(1)"));
        if (n > 0) {
            ask(all, "step", n - 1, parts - 1);
        }
        return all;
    }

    private static List<Call> cellProbe(int cell, int n) {
        List<Call> all = new ArrayList<>();
        for (int i = 0; i <= n; i++) {
            for (int what = 0; what < 5; what++) {
                all.add(call("cell(" + cell + ", " + i + ", " + what + ")"));
            }
        }
        return all;
    }

    private static List<Call> aheadProbe(int from, int to, int n) {
        List<Call> all = new ArrayList<>();
        for (int i = from; i < to; i++) {
            for (int j = 0; j < n; j++) {
                all.add(call("ahead(" + i + ", " + j + ")"));
            }
        }
        return all;
    }

    /** The text's letters show by what may stand behind them, and by the trace that they make. */
    private static List<Call> textProbe(String letters) {
        List<Call> all = new ArrayList<>();
        for (char c : letters.toCharArray()) {
            all.add(call("write(" + (int) c + ")"));
        }
        all.addAll(of("count(0) fault() trace()"));
        all.addAll(stepsProbe("", 20, 3));
        return all;
    }

    /** What was seen shows by which touches of quite another trace it leaves. */
    private static Probe seenProbe() {
        List<Call> lead = of("wipe()");
        for (char c : "T0f10ra1wa0wb1rb1wc0wc0rd1rd".toCharArray()) {
            lead.add(call("write(" + (int) c + ")"));
        }
        lead.addAll(of("trace()"));
        List<Call> asked = of("count(8) which(0) which(1)");
        for (int i = 0; i < 7; i++) {
            asked.addAll(of("drop(1) which(0) which(1)"));
        }
        asked.addAll(of("see(0,0,1) unsee() which(0)"));
        return new Probe(Part.SEEN, lead, asked);
    }

    // ---- the files

    /** "2*0ra 0wb" is "0ra0ra0wb". */
    private static String letters(String told) {
        StringBuilder all = new StringBuilder();
        for (String part : told.trim().split(" +")) {
            int star = part.indexOf('*');
            all.append(star > 0 ? part.substring(star + 1).repeat(Integer.parseInt(part.substring(0, star))) : part);
        }
        return all.toString();
    }

    private static void tell(String text) {
        int was = 0;
        for (Row r : rows) {
            String name = r.call.method.getName();
            was = name.equals("wipe") ? 0 : name.equals("write") && r.due > 0 ? (int) r.due : was;
        }
        if (was > 0) {
            leadingRow("wipe()", was);
        }
        for (int i = 0; i < text.length(); i++) {
            leadingRow("write(" + (int) text.charAt(i) + ")", i + 1);
        }
    }

    private static void tellTrace(String steps) {
        String text = "T" + letters(steps);
        tell(text);
        row("trace()", text.length() / 3);
    }

    private static void tellFault(String told) {
        int equals = told.lastIndexOf(" = ");
        String text = letters(told.substring(0, equals));
        long due = answer(told.substring(equals + 3));
        tell(text);
        row("fault()", due);
        row("trace()", due == -9 ? text.length() / 3 : -3);
        runRows();
    }

    /** Each of the 256 letters behind a text: those that are told may come there, by the others it can be no trace. */
    private static void tellMay(String told) {
        int equals = told.lastIndexOf(" = ");
        String text = letters(told.substring(0, equals));
        String may = told.substring(equals + 3);
        boolean toTheEnd = text.length() % 3 == 0;
        for (char c = 0; c < 256; c++) {
            tell(text);
            row("write(" + (int) c + ")", text.length() + 1);
            row("fault()", may.equals("none") || may.indexOf(c) < 0 ? text.length() : toTheEnd ? -9 : text.length() + 1);
            checkAnswers();
            rows.clear();
        }
    }

    private static void askSteps(String told) {
        String all = letters(told);
        row("count(1)", all.length() / 3);
        for (int i = 0; i * 3 < all.length(); i++) {
            char about = all.charAt(3 * i + 2);
            row("step(" + i + ", 0)", all.charAt(3 * i) - '0');
            row("step(" + i + ", 1)", all.charAt(3 * i + 1));
            row("step(" + i + ", 2)", about - (about >= 'a' ? 'a' : about >= 'A' ? 'A' : '0'));
        }
    }

    private static long answer(String told) {
        Long named = NAMES.get(told);
        return named != null ? named : Long.parseLong(told);
    }

    /** "cell(0|3, 1, 2) = 5 6" are two calls; one answer alone is that of all of them. */
    private static void tellCalls(String told) {
        int equals = told.lastIndexOf(" = ");
        String head = told.substring(0, equals);
        String[] due = told.substring(equals + 3).trim().split(" +");
        int open = head.indexOf('(');
        List<String> all = new ArrayList<>(List.of(head.substring(0, open + 1)));
        String inside = head.substring(open + 1, head.length() - 1);
        String[] parts = inside.isEmpty() ? new String[0] : inside.split(", ");
        for (int i = 0; i < parts.length; i++) {
            List<String> longer = new ArrayList<>();
            for (String one : all) {
                for (String choice : parts[i].split("\\|")) {
                    longer.add(one + (i == 0 ? "" : ", ") + choice);
                }
            }
            all = longer;
        }
        if (due.length != 1 && due.length != all.size()) {
            throw new IllegalStateException("not as many answers as calls: " + told);
        }
        for (int i = 0; i < all.size(); i++) {
            row(all.get(i) + ")", answer(due[due.length == 1 ? 0 : i]));
        }
    }

    /** An object that has something of all that it can hold: steps, two acts, both slots, two seen, a seed, half a text. */
    private static void tellHouse() {
        tell("T" + letters("0f1 0lA 0sB 0wa 0ra 0uA 1lA 1wa 1uA 0uB 0wb 1rb"));
        leadingRow("trace()", 12);
        leadingRow("keep(0)", 12);
        leadingRow("swap(9)", 0);
        leadingRow("keep(1)", 12);
        leadingRow("drop(4)", 11);
        leadingRow("see(0, 3, 1)", 1);
        leadingRow("see(1, 2, 0)", 2);
        leadingRow("seed(77)", 0);
        tell("T0f10r");
    }

    private static void readLine(String line) {
        if (line.startsWith("== ")) {
            runRows();
            sentences++;
        } else if (line.equals("new")) {
            runRows();
        } else if (line.equals("house")) {
            runRows();
            tellHouse();
        } else if (line.startsWith("trace: ")) {
            tellTrace(line.substring(7));
        } else if (line.startsWith("text: ")) {
            tell(letters(line.substring(6)));
        } else if (line.startsWith("fault: ")) {
            tellFault(line.substring(7));
        } else if (line.startsWith("may: ")) {
            tellMay(line.substring(5));
        } else if (line.startsWith("times ")) {
            int colon = line.indexOf(": ");
            for (int i = Integer.parseInt(line.substring(6, colon)); i > 0; i--) {
                tellCalls(line.substring(colon + 2));
            }
        } else if (line.startsWith("undos: ")) {
            for (int left = Integer.parseInt(line.substring(7)); left >= 0; left--) {
                row("undo()", left);
            }
        } else if (line.startsWith("steps:")) {
            askSteps(line.substring(6));
        } else if (!line.isEmpty() && !line.startsWith("#")) {
            tellCalls(line);
        }
    }

    private static void readFile(Path file) throws IOException {
        int at = 0;
        int before = sentences;
        for (String line : Files.readAllLines(file)) {
            at++;
            place = file.getFileName() + ":" + at;
            try {
                readLine(line.strip());
            } catch (IllegalStateException e) {
                fail(place, e.getMessage());
                rows.clear();
            }
        }
        runRows();
        if (sentences == before) {
            fail(place, "no sentence in this file");
        }
    }

    public static void main(String[] args) throws IOException {
        for (Method m : LockWatch.class.getDeclaredMethods()) {
            METHODS.putIfAbsent(m.getName(), m);
        }
        List<Path> files;
        try (Stream<Path> all = Files.list(Path.of("src/test/bounds"))) {
            files = all.filter(f -> f.toString().endsWith(".txt")).sorted().toList();
        }
        for (Path file : files) {
            readFile(file);
        }
        for (int promise = 1; promise <= 26; promise++) {
            String name = String.format("promise-%02d-", promise);
            if (files.stream().noneMatch(f -> f.getFileName().toString().startsWith(name))) {
                fail("src/test/bounds", "no file of promise " + promise);
            }
        }
        System.out.println(sentences + " sentences, " + answers + " answers, " + unchanged + " probes of what stayed");
        System.out.println(wrong == 0 ? "all bounds are as due" : wrong + " things are not as due");
        if (wrong != 0) {
            System.exit(1);
        }
    }
}
