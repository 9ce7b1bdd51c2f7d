import java.math.BigInteger;
import java.util.ArrayList;
import java.util.Arrays;
import java.util.HashMap;
import java.util.HashSet;
import java.util.List;
import java.util.Map;
import java.util.Random;
import java.util.Set;
import java.util.TreeSet;

/**
 * Long runs of drawn calls, each answered by the class and by a slow model that says the document's terms word by
 * word (lists of texts, all orders, all subsets, all tuples) and shares no code with the class.
 */
public final class ModelTest {
    private static int wrong = 0;
    private static final Map<String, Integer> happened = new HashMap<>();

    // ---- the model

    private static final class Model {
        String text = "";
        List<String> steps = new ArrayList<>();
        List<List<String>> past = new ArrayList<>();
        List<List<String>> slots = new ArrayList<>(Arrays.asList(null, null));
        List<int[]> seen = new ArrayList<>();
        BigInteger seed = BigInteger.ZERO;

        static int thread(String step) {
            return step.charAt(0) - '0';
        }

        static char sign(String step) {
            return step.charAt(1);
        }

        static int about(String step) {
            return switch (sign(step)) {
                case 'l', 's', 'u' -> step.charAt(2) - 'A';
                case 'r', 'w' -> step.charAt(2) - 'a';
                default -> step.charAt(2) - '0';
            };
        }

        /** The locks that each thread holds behind some steps: "thread, lock" with w or r. */
        static Map<String, Character> holds(List<String> steps) {
            Map<String, Character> all = new HashMap<>();
            for (String s : steps) {
                String key = s.charAt(0) + "" + s.charAt(2);
                if (sign(s) == 'l') all.put(key, 'w');
                if (sign(s) == 's') all.put(key, 'r');
                if (sign(s) == 'u') all.remove(key);
            }
            return all;
        }

        static boolean holdsAny(Map<String, Character> holds, char thread) {
            return holds.keySet().stream().anyMatch(k -> k.charAt(0) == thread);
        }

        static boolean mayFollow(List<String> steps, String s) {
            if (!s.matches("[0-3]([lsu][A-D]|[rw][a-d]|[fj][0-3])")) return false;
            Set<Character> started = new HashSet<>(Set.of('0'));
            Set<Character> ended = new HashSet<>();
            for (String t : steps) {
                if (sign(t) == 'f') started.add(t.charAt(2));
                if (sign(t) == 'j') ended.add(t.charAt(2));
            }
            char me = s.charAt(0);
            char what = s.charAt(2);
            if (!started.contains(me) || ended.contains(me)) return false;
            Map<String, Character> holds = holds(steps);
            switch (sign(s)) {
                case 'l':
                    return holds.keySet().stream().noneMatch(k -> k.charAt(1) == what);
                case 's':
                    return !holds.containsKey(me + "" + what)
                        && holds.entrySet().stream().noneMatch(e -> e.getKey().charAt(1) == what && e.getValue() == 'w');
                case 'u':
                    return holds.containsKey(me + "" + what);
                case 'f':
                    return !started.contains(what);
                case 'j':
                    return what != me && started.contains(what) && !ended.contains(what) && !holdsAny(holds, what);
                default:
                    return true;
            }
        }

        static boolean isTrace(List<String> steps) {
            if (steps.size() > 20) return false;
            for (int i = 0; i < steps.size(); i++) {
                if (!mayFollow(steps.subList(0, i), steps.get(i))) return false;
            }
            return true;
        }

        static List<String> cut(String text) {
            List<String> steps = new ArrayList<>();
            for (int i = 1; i + 3 <= text.length(); i += 3) steps.add(text.substring(i, i + 3));
            return steps;
        }

        static boolean isTraceText(String text) {
            return text.startsWith("T") && text.length() % 3 == 1 && isTrace(cut(text));
        }

        /** Whether some letters behind a text make it a trace. */
        static boolean canGoOn(String text) {
            if (text.isEmpty() || isTraceText(text)) return true;
            if (text.length() % 3 == 1) return false;
            for (char c : "lsurwfjABCDabcd0123".toCharArray()) {
                if (canGoOn(text + c)) return true;
            }
            return false;
        }

        int fault() {
            for (int i = 0; i < text.length(); i++) {
                if (!canGoOn(text.substring(0, i + 1))) return i;
            }
            return isTraceText(text) ? -9 : text.length();
        }

        static Map<Integer, Character> held(List<String> steps, int i) {
            Map<Integer, Character> mine = new HashMap<>();
            holds(steps.subList(0, i)).forEach((k, v) -> {
                if (k.charAt(0) == steps.get(i).charAt(0)) mine.put(k.charAt(1) - 'A', v);
            });
            return mine;
        }

        static int bits(Set<Integer> set) {
            int bits = 0;
            for (int x : set) bits |= 1 << x;
            return bits;
        }

        static Set<Integer> guards(List<String> steps, int i) {
            Set<Integer> found = new TreeSet<>();
            held(steps, i).forEach((lock, how) -> {
                if (sign(steps.get(i)) == 'r' || how == 'w') found.add(lock);
            });
            return found;
        }

        static boolean isTouch(String s) {
            return sign(s) == 'r' || sign(s) == 'w';
        }

        static boolean isTouch(String s, int cell) {
            return isTouch(s) && about(s) == cell;
        }

        /** State, candidates, owner, flagged by, touches; only some steps are watched, only some locks can guard. */
        static int[] cell(List<String> steps, int cell, int n, Set<Integer> unwatched, Set<Integer> come) {
            int state = 0;
            int owner = -9;
            int flagged = -9;
            int touches = 0;
            Set<Integer> candidates = new TreeSet<>(Set.of(0, 1, 2, 3));
            for (int i = 0; i < n; i++) {
                String s = steps.get(i);
                if (!isTouch(s, cell) || unwatched.contains(i)) continue;
                touches++;
                Set<Integer> guards = guards(steps, i);
                guards.retainAll(come);
                if (state == 0) {
                    state = 1;
                    owner = thread(s);
                } else if (state == 1) {
                    if (owner != thread(s)) {
                        state = sign(s) == 'r' ? 2 : 3;
                        candidates = guards;
                        owner = -9;
                    }
                } else {
                    candidates.retainAll(guards);
                    if (sign(s) == 'w') state = 3;
                }
                if (flagged == -9 && state == 3 && candidates.isEmpty()) flagged = i;
            }
            return new int[] {state, bits(candidates), owner, flagged, touches};
        }

        static final Set<Integer> LOCKS = Set.of(0, 1, 2, 3);

        static int[] cell(List<String> steps, int cell) {
            return cell(steps, cell, steps.size(), Set.of(), LOCKS);
        }

        static boolean[][] ahead(List<String> steps) {
            int n = steps.size();
            boolean[][] a = new boolean[n][n];
            for (int i = 0; i < n; i++) {
                for (int j = 0; j < n; j++) {
                    String s = steps.get(i);
                    String t = steps.get(j);
                    if (i < j && thread(s) == thread(t)) a[i][j] = true;
                    if (sign(s) == 'f' && about(s) == thread(t)) a[i][j] = true;
                    if (sign(t) == 'j' && about(t) == thread(s)) a[i][j] = true;
                }
            }
            for (int k = 0; k < n; k++) {
                for (int i = 0; i < n; i++) {
                    for (int j = 0; j < n; j++) a[i][j] |= a[i][k] && a[k][j];
                }
            }
            return a;
        }

        static List<Integer> meetings(List<String> steps, int cell) {
            boolean[][] a = ahead(steps);
            List<Integer> found = new ArrayList<>();
            for (int i = 0; i < steps.size(); i++) {
                for (int j = i + 1; j < steps.size(); j++) {
                    String s = steps.get(i);
                    String t = steps.get(j);
                    if (!isTouch(s, cell) || !isTouch(t, cell) || thread(s) == thread(t)) continue;
                    if (sign(s) != 'w' && sign(t) != 'w') continue;
                    if (a[i][j] || a[j][i]) continue;
                    Set<Integer> both = guards(steps, i);
                    both.retainAll(guards(steps, j));
                    if (both.isEmpty()) found.add(100 * i + j);
                }
            }
            return found;
        }

        /** Step, from, to. */
        static List<int[]> edges(List<String> steps) {
            List<int[]> found = new ArrayList<>();
            for (int i = 0; i < steps.size(); i++) {
                if (sign(steps.get(i)) != 'l' && sign(steps.get(i)) != 's') continue;
                for (int lock : held(steps, i).keySet()) found.add(new int[] {i, lock, about(steps.get(i))});
            }
            return found;
        }

        static boolean notBothRead(List<String> steps, int[] e, int[] behind) {
            return sign(steps.get(e[0])) == 'l' || held(steps, behind[0]).get(behind[1]) == 'w';
        }

        static void tuples(List<String> steps, List<int[]> edges, List<int[]> row, int size, List<List<int[]>> all) {
            if (row.size() == size) {
                all.add(new ArrayList<>(row));
                return;
            }
            for (int[] e : edges) {
                if (!row.isEmpty() && row.get(row.size() - 1)[2] != e[1]) continue;
                row.add(e);
                tuples(steps, edges, row, size, all);
                row.remove(row.size() - 1);
            }
        }

        /** Each ring once: its edges from the least step on. */
        static List<List<int[]>> rings(List<String> steps, int size) {
            List<List<int[]>> all = new ArrayList<>();
            tuples(steps, edges(steps), new ArrayList<>(), size, all);
            List<List<int[]>> found = new ArrayList<>();
            Set<String> names = new HashSet<>();
            for (List<int[]> row : all) {
                Set<Integer> threads = new HashSet<>();
                Set<Integer> locks = new HashSet<>();
                boolean ok = true;
                int least = 0;
                for (int i = 0; i < size; i++) {
                    int[] e = row.get(i);
                    int[] behind = row.get((i + 1) % size);
                    ok &= threads.add(thread(steps.get(e[0]))) && locks.add(e[1]) && e[2] == behind[1]
                        && notBothRead(steps, e, behind);
                    if (e[0] < row.get(least)[0]) least = i;
                }
                if (!ok) continue;
                List<int[]> turned = new ArrayList<>();
                StringBuilder name = new StringBuilder();
                for (int i = 0; i < size; i++) {
                    turned.add(row.get((least + i) % size));
                    name.append(Arrays.toString(row.get((least + i) % size)));
                }
                if (names.add(name.toString())) found.add(turned);
            }
            return found;
        }

        static boolean gated(List<String> steps, List<int[]> ring) {
            for (int[] e : ring) {
                for (int[] f : ring) {
                    if (e == f) continue;
                    Map<Integer, Character> one = held(steps, e[0]);
                    Map<Integer, Character> other = held(steps, f[0]);
                    for (int lock : one.keySet()) {
                        if (other.containsKey(lock) && !(one.get(lock) == 'r' && other.get(lock) == 'r')) return true;
                    }
                }
            }
            return false;
        }

        static boolean ordered(boolean[][] a, List<int[]> ring) {
            for (int[] e : ring) {
                for (int[] f : ring) {
                    if (a[e[0]][f[0]]) return true;
                }
            }
            return false;
        }

        static int rings(List<String> steps, int size, int what) {
            boolean[][] a = ahead(steps);
            int found = 0;
            for (List<int[]> ring : rings(steps, size)) {
                boolean g = gated(steps, ring);
                boolean o = ordered(a, ring);
                if (what == 0 || what == 1 && g || what == 2 && o || what == 3 && !g && !o) found++;
            }
            return found;
        }

        static int feasible(List<String> steps) {
            return rings(steps, 2, 3) + rings(steps, 3, 3) + rings(steps, 4, 3);
        }

        int first() {
            boolean[][] a = ahead(steps);
            TreeSet<Integer> all = new TreeSet<>();
            for (int size = 2; size <= 4; size++) {
                for (List<int[]> ring : rings(steps, size)) {
                    if (gated(steps, ring) || ordered(a, ring)) continue;
                    StringBuilder row = new StringBuilder();
                    for (int[] e : ring) row.append(String.format("%02d", e[0] + 1));
                    all.add(Integer.parseInt(row.toString()));
                }
            }
            return all.isEmpty() ? -9 : all.first();
        }

        static List<String> dropped(List<String> steps, int step) {
            if (step < 0 || step >= steps.size()) return null;
            List<String> left = new ArrayList<>(steps);
            left.remove(step);
            return isTrace(left) ? left : null;
        }

        static List<String> swapped(List<String> steps, int step) {
            if (step < 0 || step + 1 >= steps.size()) return null;
            List<String> left = new ArrayList<>(steps);
            left.set(step, steps.get(step + 1));
            left.set(step + 1, steps.get(step));
            return isTrace(left) ? left : null;
        }

        int act(List<String> next, int answer) {
            if (next == null) return -3;
            past.add(steps);
            if (past.size() > 14) past.remove(0);
            steps = next;
            return answer;
        }

        int judge(int n, long row) {
            if (n < 1 || n > 4 || row < 0 || Long.toString(row).length() > 4 * n) return -2;
            String told = String.format("%0" + 4 * n + "d", row);
            List<String> now = steps;
            for (int i = 0; i < n; i++) {
                String d = told.substring(4 * i, 4 * i + 4);
                int two = Integer.parseInt(d.substring(1, 3));
                int last = d.charAt(3) - '0';
                boolean ok;
                if (d.matches("1..0") && dropped(now, two) != null) {
                    now = dropped(now, two);
                    ok = true;
                } else if (d.matches("2..0") && swapped(now, two) != null) {
                    now = swapped(now, two);
                    ok = true;
                } else if (d.matches("3[0-3]0[0-3]")) {
                    ok = cell(now, two / 10)[0] == last;
                } else if (d.matches("4[0-3]0[01]")) {
                    ok = cell(now, two / 10)[3] == -9 ^ last == 1;
                } else if (d.matches("500.")) {
                    ok = feasible(now) >= last;
                } else {
                    ok = d.matches("6..[0-3]") && two < now.size() && held(now, two).containsKey(last);
                }
                if (!ok) return i;
            }
            return -9;
        }

        List<Integer> which() {
            List<Integer> found = new ArrayList<>();
            for (int i = 0; i < steps.size(); i++) {
                if (!isTouch(steps.get(i))) continue;
                boolean ok = true;
                for (int[] s : seen) {
                    int state = cell(steps, s[0], steps.size(), Set.of(i), LOCKS)[0];
                    ok &= (state == s[1]) == (s[2] == 1);
                }
                if (ok) found.add(i);
            }
            return found;
        }

        static void orders(List<Integer> row, List<List<Integer>> all) {
            if (row.size() == 4) all.add(new ArrayList<>(row));
            for (int i = 0; i < 4; i++) {
                if (row.contains(i)) continue;
                row.add(i);
                orders(row, all);
                row.remove(row.size() - 1);
            }
        }

        static int unflagged(List<String> steps, Set<Integer> come) {
            int found = 0;
            for (int c = 0; c < 4; c++) {
                if (cell(steps, c, steps.size(), Set.of(), come)[3] == -9) found++;
            }
            return found;
        }

        static int tell(BigInteger above, BigInteger below, boolean upper) {
            BigInteger g = above.gcd(below);
            return (upper ? above : below).divide(g).intValueExact();
        }

        int share(int lock, boolean upper) {
            List<List<Integer>> all = new ArrayList<>();
            orders(new ArrayList<>(), all);
            int sum = 0;
            for (List<Integer> order : all) {
                Set<Integer> come = new TreeSet<>(order.subList(0, order.indexOf(lock)));
                int was = unflagged(steps, come);
                come.add(lock);
                sum += unflagged(steps, come) - was;
            }
            return tell(BigInteger.valueOf(sum), BigInteger.valueOf(all.size()), upper);
        }

        int lost(int cell, int x, boolean upper) {
            List<Integer> touches = new ArrayList<>();
            for (int i = 0; i < steps.size(); i++) {
                if (isTouch(steps.get(i), cell)) touches.add(i);
            }
            if (touches.size() > 9) return -4;
            BigInteger sum = BigInteger.ZERO;
            for (int set = 0; set < 1 << touches.size(); set++) {
                Set<Integer> unwatched = new HashSet<>();
                for (int i = 0; i < touches.size(); i++) {
                    if ((set >> i & 1) == 1) unwatched.add(touches.get(i));
                }
                if (cell(steps, cell, steps.size(), unwatched, LOCKS)[3] == -9) continue;
                sum = sum.add(BigInteger.valueOf(x).pow(unwatched.size())
                    .multiply(BigInteger.valueOf(10 - x).pow(touches.size() - unwatched.size())));
            }
            return tell(sum, BigInteger.TEN.pow(touches.size()), upper);
        }

        int drawn(int m) {
            if (m < 1 || m > 20) return -2;
            BigInteger all = BigInteger.ONE.shiftLeft(64);
            List<String> now = steps;
            int sum = 0;
            for (int i = 0; i < m; i++) {
                seed = seed.multiply(new BigInteger("6364136223846793005"))
                    .add(new BigInteger("1442695040888963407")).mod(all);
                int step = seed.shiftRight(33).mod(BigInteger.valueOf(Math.max(1, now.size()))).intValueExact();
                List<String> left = dropped(now, step);
                if (left != null) now = left;
                for (int c = 0; c < 4; c++) sum += cell(now, c)[3] == -9 ? 0 : 1;
                sum += feasible(now);
            }
            return sum;
        }

        int count(int what) {
            int bits = what == 2 ? 1 : 0;
            switch (what) {
                case 0: return text.length();
                case 1: return steps.size();
                case 2: case 3:
                    for (String s : steps) {
                        if (sign(s) == (what == 2 ? 'f' : 'j')) bits |= 1 << about(s);
                    }
                    return bits;
                case 4:
                    for (String k : holds(steps).keySet()) bits |= 1 << k.charAt(1) - 'A';
                    return bits;
                case 5:
                    for (int c = 0; c < 4; c++) bits |= cell(steps, c)[3] == -9 ? 0 : 1 << c;
                    return bits;
                case 6:
                    for (int c = 0; c < 4; c++) bits |= meetings(steps, c).isEmpty() ? 0 : 1 << c;
                    return bits;
                case 7: return past.size();
                case 8: return seen.size();
                default: return -2;
            }
        }
    }

    // ---- the runs

    private static final Random random = new Random(20261118L);
    private static int run;
    private static int calls;
    private static LockWatch x;
    private static Model m;

    private static void due(String call, long got, long want) {
        calls++;
        String name = call.substring(0, call.indexOf('('));
        happened.merge(name + (want >= -4 && want < 0 ? want : want == -9 ? "none" : ""), 1, Integer::sum);
        if (got != want) {
            wrong++;
            if (wrong < 40) {
                System.out.println("run " + run + ": " + call + " answered " + got + ", due is " + want
                    + " with " + m.steps + " and text " + m.text);
            }
        }
    }

    /** A number that is mostly in 0 to most, at times just outside, at times far away. */
    private static int number(int most) {
        int kind = random.nextInt(30);
        if (kind == 0) return -1;
        if (kind == 1) return most + 1;
        if (kind == 2) return random.nextBoolean() ? Integer.MAX_VALUE : Integer.MIN_VALUE;
        return random.nextInt(most + 1);
    }

    private static boolean oneOfFour(int n) {
        return n >= 0 && n < 4;
    }

    private static void tellText(String text) {
        due("wipe()", x.wipe(), m.text.length());
        m.text = "";
        for (char c : text.toCharArray()) {
            boolean room = m.text.length() < 64;
            if (room) m.text += c;
            due("write(" + (int) c + ")", x.write(c), room ? m.text.length() : -4);
        }
    }

    private static String drawnSteps(int most) {
        StringBuilder text = new StringBuilder("T");
        String[] kinds = {"llllssuurwwfj", "llllssuurwwfj", "lsurrrwwwf", "fjrwlsu", "rrwwf"};
        String signs = kinds[random.nextInt(kinds.length)];
        for (int i = 0; i < most; i++) {
            List<String> may = new ArrayList<>();
            char sign = signs.charAt(random.nextInt(signs.length()));
            for (String about : (i % 3 > 0 ? "ABCDaaabcd1230" : "ABCDa1230").split("")) {
                for (int thread = 0; thread < 4; thread++) {
                    String s = thread + "" + sign + about;
                    if (Model.mayFollow(Model.cut(text.toString()), s)) may.add(s);
                }
            }
            if (!may.isEmpty()) text.append(may.get(random.nextInt(may.size())));
        }
        return text.toString();
    }

    /** Threads that take locks round about, so that there are rings of all sizes. */
    private static String ringSteps() {
        int size = 2 + random.nextInt(3);
        StringBuilder text = new StringBuilder("T");
        for (int t = 1; t < size; t++) text.append("0f").append(t);
        boolean gate = size < 4 && random.nextInt(3) == 0;
        boolean wait = random.nextInt(4) == 0;
        List<Integer> turn = new ArrayList<>();
        for (int i = 0; i < size; i++) turn.add(i);
        java.util.Collections.shuffle(turn, random);
        for (int t : turn) {
            int to = (t + 1) % size;
            String how = random.nextInt(4) == 0 ? "s" : "l";
            String then = random.nextInt(4) == 0 ? "s" : "l";
            char one = (char) ('A' + t);
            char other = (char) ('A' + to);
            char gateHow = random.nextBoolean() ? 's' : 'l';
            if (gate) text.append(t).append(gateHow).append('D');
            text.append(t).append(how).append(one).append(t).append(then).append(other);
            if (size < 4 && !(gate && size == 3) && random.nextBoolean()) text.append(t).append(random.nextBoolean() ? "wa" : "ra");
            text.append(t).append('u').append(other).append(t).append('u').append(one);
            if (gate) text.append(t).append("uD");
            if (wait && t != 0 && size < 4 && random.nextBoolean()) text.append("0j").append(t);
        }
        return text.toString();
    }

    /** A ring of four in which one step may have one more lock held, and starts and ends may come between the steps. */
    private static String fourSteps() {
        List<Integer> turn = new ArrayList<>(List.of(0, 1, 2, 3));
        java.util.Collections.shuffle(turn, random);
        int late = random.nextInt(4);
        int gate = random.nextInt(8);
        int waits = random.nextInt(12);
        StringBuilder text = new StringBuilder("T");
        for (int t = 1; t < 4; t++) {
            if (t != late) text.append("0f").append(t);
        }
        for (int i = 0; i < 4; i++) {
            int t = turn.get(i);
            if (t == late && t != 0) text.append(i == 0 ? 0 : turn.get(i - 1)).append('f').append(t);
            if (waits < i) text.append(t).append('j').append(turn.get(waits));
            if (waits < i) waits = 4;
            String other = t + "" + (random.nextInt(5) == 0 ? 's' : 'l') + (char) ('A' + (t + 2 + random.nextInt(2)) % 4);
            if (t == gate) text.append(other);
            text.append(t).append(random.nextInt(8) == 0 ? 's' : 'l').append((char) ('A' + t));
            text.append(t).append(random.nextInt(8) == 0 ? 's' : 'l').append((char) ('A' + (t + 1) % 4));
            if (i == 3) break;
            text.append(t).append('u').append((char) ('A' + (t + 1) % 4)).append(t).append('u').append((char) ('A' + t));
            if (t == gate) text.append(t).append('u').append(other.charAt(2));
        }
        return text.toString();
    }

    /** Threads that take any two locks, one behind the other, so that rings may fail by a thread or a lock twice. */
    private static String pairSteps() {
        int threads = 2 + random.nextInt(3);
        StringBuilder text = new StringBuilder("T");
        for (int t = 1; t < threads; t++) text.append("0f").append(t);
        List<Integer> locks = new ArrayList<>(List.of(0, 1, 2, 3));
        while (text.length() + 12 <= 61) {
            int t = random.nextInt(threads);
            java.util.Collections.shuffle(locks, random);
            char one = (char) ('A' + locks.get(0));
            char other = (char) ('A' + locks.get(1));
            text.append(t).append(random.nextInt(6) == 0 ? 's' : 'l').append(one);
            text.append(t).append(random.nextInt(6) == 0 ? 's' : 'l').append(other);
            text.append(t).append('u').append(other).append(t).append('u').append(one);
        }
        return text.toString();
    }

    private static String drawnText() {
        int from = random.nextInt(10);
        String text = from < 2 ? ringSteps() : from < 3 ? fourSteps() : from < 5 ? pairSteps() : drawnSteps(random.nextInt(23));
        int kind = random.nextInt(10);
        if (kind == 2) return text + "0ra0wb";
        if (text.length() > 61) text = text.substring(0, 61);
        if (kind == 0) return text.substring(0, random.nextInt(text.length() + 1));
        if (kind == 1) {
            String letters = "TlsurwfjABCDEabcde012345x";
            StringBuilder other = new StringBuilder(text);
            other.setCharAt(random.nextInt(text.length()), letters.charAt(random.nextInt(letters.length())));
            return other.toString();
        }
        return text;
    }

    private static void callTrace() {
        due("fault()", x.fault(), m.fault());
        boolean good = m.fault() == -9;
        if (good) {
            m.steps = Model.cut(m.text);
            m.past.clear();
            m.slots.set(0, null);
            m.slots.set(1, null);
        }
        due("trace()", x.trace(), good ? m.steps.size() : -3);
    }

    private static void callAct() {
        int step = number(Math.max(0, m.steps.size()));
        int kind = random.nextInt(5);
        if (kind <= 1) {
            boolean there = step >= 0 && step < m.steps.size();
            List<String> next = Model.dropped(m.steps, step);
            due("drop(" + step + ")", x.drop(step), there ? m.act(next, m.steps.size() - 1) : -1);
        } else if (kind <= 3) {
            boolean there = step >= 0 && step < m.steps.size() - 1;
            List<String> next = Model.swapped(m.steps, there ? step : -1);
            due("swap(" + step + ")", x.swap(step), there ? m.act(next, Model.thread(m.steps.get(step))) : -1);
        } else if (m.past.isEmpty()) {
            due("undo()", x.undo(), -3);
        } else {
            m.steps = m.past.remove(m.past.size() - 1);
            due("undo()", x.undo(), m.past.size());
        }
    }

    private static void callStep() {
        int n = m.steps.size();
        int s = number(Math.max(0, n - 1));
        int t = number(Math.max(0, n - 1));
        int what = number(4);
        boolean there = s >= 0 && s < n;
        int want = -1;
        if (there) {
            String step = m.steps.get(s);
            Set<Integer> write = new TreeSet<>();
            Set<Integer> read = new TreeSet<>();
            Model.held(m.steps, s).forEach((lock, how) -> (how == 'w' ? write : read).add(lock));
            want = what < 0 || what > 4 ? -2 : new int[] {Model.thread(step), Model.sign(step), Model.about(step),
                Model.bits(write), Model.bits(read)}[what];
        }
        due("step(" + s + ", " + what + ")", x.step(s, what), want);
        boolean both = there && t >= 0 && t < n;
        due("ahead(" + s + ", " + t + ")", x.ahead(s, t), both ? Model.ahead(m.steps)[s][t] ? 1 : 0 : -1);
    }

    private static void callCell() {
        int c = number(3);
        int n = number(m.steps.size());
        int what = number(4);
        int want = -1;
        if (oneOfFour(c)) {
            boolean in = n >= 0 && n <= m.steps.size() && what >= 0 && what <= 4;
            want = in ? Model.cell(m.steps, c, n, Set.of(), Model.LOCKS)[what] : -2;
        }
        due("cell(" + c + ", " + n + ", " + what + ")", x.cell(c, n, what), want);
        what = number(1);
        want = -1;
        if (oneOfFour(c)) {
            List<Integer> all = Model.meetings(m.steps, c);
            want = what == 0 ? all.size() : what == 1 ? all.isEmpty() ? -9 : all.get(0) : -2;
        }
        due("meetings(" + c + ", " + what + ")", x.meetings(c, what), want);
    }

    private static void callRings() {
        int what = number(16);
        int want = what < 0 || what > 16 ? -2 : 0;
        for (int[] e : Model.edges(m.steps)) {
            if (want >= 0 && (what == 0 || what == 1 + 4 * e[1] + e[2])) want++;
        }
        due("edges(" + what + ")", x.edges(what), want);
        int size = 2 + number(2);
        int sort = number(3);
        boolean in = size >= 2 && size <= 4 && sort >= 0 && sort <= 3;
        want = in ? Model.rings(m.steps, size, sort) : -2;
        if (want > 0) happened.merge("rings of " + size + " sort " + sort, 1, Integer::sum);
        due("rings(" + size + ", " + sort + ")", x.rings(size, sort), want);
        due("first()", x.first(), m.first());
    }

    private static String drawnDoing() {
        int n = m.steps.size() + 1;
        return switch (random.nextInt(8)) {
            case 0, 1 -> String.format("1%02d%d", random.nextInt(n), random.nextInt(9) == 0 ? 1 : 0);
            case 2 -> String.format("2%02d%d", random.nextInt(n), random.nextInt(9) == 0 ? 1 : 0);
            case 3 -> {
                int c = random.nextInt(4);
                yield String.format("3%d0%d", c, random.nextInt(3) > 0 ? Model.cell(m.steps, c)[0] : random.nextInt(5));
            }
            case 4 -> String.format("4%d0%d", random.nextInt(4), random.nextInt(8) == 0 ? 2 : random.nextInt(2));
            case 5 -> "500" + random.nextInt(3);
            case 6 -> String.format("6%02d%d", random.nextInt(n), random.nextInt(4));
            default -> String.format("%04d", random.nextInt(10000));
        };
    }

    private static void callJudge() {
        int n = number(4);
        StringBuilder told = new StringBuilder();
        for (int i = 0; i < n && i < 4; i++) told.append(drawnDoing());
        long row = told.length() == 0 ? random.nextInt(3) : Long.parseLong(told.toString());
        if (random.nextInt(20) == 0) row = random.nextBoolean() ? -1 - row : row * 10;
        due("judge(" + n + ", " + row + ")", x.judge(n, row), m.judge(n, row));
    }

    private static void callSeen() {
        int kind = random.nextInt(6);
        if (kind == 0) {
            due("unsee()", x.unsee(), m.seen.size());
            m.seen.clear();
        } else if (kind < 3) {
            int c = number(3);
            int s = number(3);
            int was = number(1);
            int want = !oneOfFour(c) ? -1 : !oneOfFour(s) || was < 0 || was > 1 ? -2 : m.seen.size() == 6 ? -4 : 0;
            if (want == 0) {
                m.seen.add(new int[] {c, s, was});
                want = m.seen.size();
            }
            due("see(" + c + ", " + s + ", " + was + ")", x.see(c, s, was), want);
        } else {
            int what = number(1);
            List<Integer> all = m.which();
            int want = what == 0 ? all.size() : what == 1 ? all.isEmpty() ? -9 : all.get(0) : -2;
            due("which(" + what + ")", x.which(what), want);
        }
    }

    private static void callChances() {
        boolean upper = random.nextBoolean();
        int n = number(3);
        due("share(" + n + ", " + upper + ")", x.share(n, upper), oneOfFour(n) ? m.share(n, upper) : -1);
        int tenths = number(10);
        int want = !oneOfFour(n) ? -1 : tenths < 0 || tenths > 10 ? -2 : m.lost(n, tenths, upper);
        due("lost(" + n + ", " + tenths + ", " + upper + ")", x.lost(n, tenths, upper), want);
        int times = random.nextInt(8) == 0 ? number(20) : 1 + random.nextInt(5);
        due("drawn(" + times + ")", x.drawn(times), m.drawn(times));
        long v = random.nextInt(3) == 0 ? random.nextLong() : random.nextInt(100);
        due("seed(" + v + ")", x.seed(v), m.seed.longValue());
        m.seed = BigInteger.valueOf(v).mod(BigInteger.ONE.shiftLeft(64));
    }

    private static void callSlots() {
        int slot = number(1);
        boolean there = slot == 0 || slot == 1;
        if (random.nextInt(3) == 0) {
            if (there) m.slots.set(slot, m.steps);
            due("keep(" + slot + ")", x.keep(slot), there ? m.steps.size() : -1);
        } else if (random.nextInt(3) == 0) {
            boolean was = there && m.slots.get(slot) != null;
            if (was) {
                m.steps = m.slots.get(slot);
                m.past.clear();
            }
            due("again(" + slot + ")", x.again(slot), there ? was ? m.steps.size() : -3 : -1);
        }
        int what = number(8);
        due("count(" + what + ")", x.count(what), m.count(what));
    }

    private static void oneRun() {
        x = new LockWatch();
        m = new Model();
        calls = 0;
        int letter = random.nextBoolean() ? 256 : random.nextBoolean() ? -1 : Integer.MIN_VALUE;
        due("write(" + letter + ")", x.write(letter), -2);
        while (calls < 430) {
            int kind = random.nextInt(60);
            if (kind == 0 || m.steps.size() < 8 && kind < 6 || m.steps.isEmpty() && kind < 30) {
                tellText(drawnText());
                callTrace();
            } else if (kind < 16) callAct();
            else if (kind < 22) callStep();
            else if (kind < 29) callCell();
            else if (kind < 36) callRings();
            else if (kind < 42) callJudge();
            else if (kind < 49) callSeen();
            else if (kind < 53) callChances();
            else callSlots();
        }
    }

    private static void needed(String what) {
        if (!happened.containsKey(what)) {
            wrong++;
            System.out.println("the runs never came to: " + what);
        }
    }

    public static void main(String[] args) {
        int runs = args.length > 0 ? Integer.parseInt(args[0]) : 400;
        for (run = 0; run < runs; run++) oneRun();
        for (String what : new String[] {"write-2", "write-4", "trace-3", "faultnone", "step-1", "step-2", "drop-1",
            "drop-3", "swap-1", "swap-3", "undo-3", "cell-1", "cell-2", "cellnone", "ahead-1", "meetings-1",
            "meetings-2", "meetingsnone", "edges-2", "rings-2", "firstnone", "judge-2", "judgenone", "see-1", "see-2",
            "see-4", "which-2", "whichnone", "share-1", "lost-1", "lost-2", "lost-4", "drawn-2", "keep-1", "again-1", "again-3",
            "count-2", "rings of 2 sort 1", "rings of 2 sort 2", "rings of 2 sort 3", "rings of 3 sort 1",
            "rings of 3 sort 2", "rings of 3 sort 3", "rings of 4 sort 0", "rings of 4 sort 1", "rings of 4 sort 2",
            "rings of 4 sort 3"}) {
            needed(what);
        }
        if (args.length > 1) System.out.println(new java.util.TreeMap<>(happened));
        System.out.println(wrong == 0 ? "all answers are as the model's" : wrong + " answers are not as the model's");
        if (wrong != 0) System.exit(1);
    }
}
