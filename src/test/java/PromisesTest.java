/** The document's promises one by one: ordinary inputs, the edges that it names, and wrong inputs. */
public final class PromisesTest {
    private static final int UNKNOWN = -1, OUTSIDE = -2, STATE = -3, FULL = -4, NONE = -9;
    private static final int LEAST = Integer.MIN_VALUE, MOST = Integer.MAX_VALUE;
    private static int wrong = 0;
    private static int checks = 0;

    private static void due(String what, long got, long want) {
        checks++;
        if (got != want) {
            wrong++;
            System.out.println(what + " answered " + got + ", due is " + want);
        }
    }

    private static void tell(LockWatch x, String text) {
        x.wipe();
        for (char c : text.toCharArray()) {
            x.write(c);
        }
    }

    /** A new object with a trace, told as steps with blanks between them. */
    private static LockWatch of(String steps) {
        LockWatch x = new LockWatch();
        String text = "T" + steps.replace(" ", "");
        tell(x, text);
        due("trace() of " + steps, x.trace(), text.length() / 3);
        return x;
    }

    private static void refusesAll(String what, int want, int... answers) {
        for (int i = 0; i < answers.length; i++) {
            due(what + ", the wrong input " + i, answers[i], want);
        }
    }

    private static void sameSteps(String what, LockWatch x, LockWatch y) {
        due(what + ": how many steps", x.count(1), y.count(1));
        for (int i = 0; i < y.count(1); i++) {
            for (int part = 0; part < 5; part++) {
                due(what + ": step(" + i + ", " + part + ")", x.step(i, part), y.step(i, part));
            }
        }
    }

    // ---- the trace

    private static void promise1() {
        LockWatch x = new LockWatch();
        int[] counts = {0, 0, 1, 0, 0, 0, 0, 0, 0};
        for (int i = 0; i < counts.length; i++) {
            due("1: count(" + i + ") of a new object", x.count(i), counts[i]);
        }
        due("1: fault", x.fault(), 0);
        due("1: step", x.step(0, 0), UNKNOWN);
        due("1: undo", x.undo(), STATE);
        due("1: again", x.again(0), STATE);
        due("1: first", x.first(), NONE);
        due("1: seed", x.seed(3), 0);
        due("1: which", x.which(0), 0);
    }

    private static void promise2() {
        LockWatch x = new LockWatch();
        due("2: write(0)", x.write(0), 1);
        due("2: write(255)", x.write(255), 2);
        refusesAll("2: write", OUTSIDE, x.write(-1), x.write(256), x.write(LEAST), x.write(MOST));
        for (int i = 3; i <= 64; i++) {
            due("2: write", x.write('T'), i);
        }
        due("2: write, the 65th", x.write('T'), FULL);
        due("2: write, the 65th, wrong", x.write(256), OUTSIDE);
        due("2: how long", x.count(0), 64);
        due("2: wiped", x.wipe(), 64);
        due("2: room again", x.write('T'), 1);
    }

    private static void promise3() {
        LockWatch x = of("0lA 0ra");
        due("3: wipe", x.wipe(), 7);
        due("3: wipe", x.wipe(), 0);
        due("3: count", x.count(0), 0);
        due("3: the trace stays", x.count(1), 2);
        due("3: fault", x.fault(), 0);
        due("3: trace", x.trace(), STATE);
    }

    private static void faultOf(String text, int want) {
        LockWatch x = new LockWatch();
        tell(x, text);
        due("4: fault of " + text, x.fault(), want);
        due("4: fault again of " + text, x.fault(), want);
        due("5: trace of " + text, x.trace(), want == NONE ? text.length() / 3 : STATE);
    }

    private static void promise4() {
        faultOf("", 0);
        faultOf("T", NONE);
        faultOf("t", 0);
        faultOf("0lA", 0);
        faultOf("T0", 2);
        faultOf("T0l", 3);
        faultOf("T0lA", NONE);
        faultOf("T4", 1);
        faultOf("T/", 1);
        faultOf("T1ra", 1);
        faultOf("T0xA", 2);
        faultOf("T0LA", 2);
        faultOf("T0la", 3);
        faultOf("T0lE", 3);
        faultOf("T0l@", 3);
        faultOf("T0rA", 3);
        faultOf("T0rd", NONE);
        faultOf("T0re", 3);
        faultOf("T0w`", 3);
        faultOf("T0f4", 3);
        faultOf("T0fA", 3);
        faultOfLocks();
        faultOfThreads();
        String twenty = "T" + "0ra".repeat(20);
        faultOf(twenty, NONE);
        faultOf(twenty.substring(0, 60), 60);
        faultOf(twenty + "0", 61);
        faultOf(twenty + "x", 61);
        faultOf(twenty + "0ra", 61);
        faultOf(twenty.substring(0, 58) + "1ra0ra", 58);
    }

    private static void faultOfLocks() {
        faultOf("T0uA", 2);
        faultOf("T0lA0uA", NONE);
        faultOf("T0sA0uA", NONE);
        faultOf("T0lA0uB", 6);
        faultOf("T0lA0lA", 6);
        faultOf("T0lA0sA", 6);
        faultOf("T0sA0lA", 6);
        faultOf("T0sA0sA", 6);
        faultOf("T0f10sA1sA", NONE);
        faultOf("T0f10sA1lA", 9);
        faultOf("T0f10lA1sA", 9);
        faultOf("T0f10lA1uA", 8);
        faultOf("T0f10sA1sA0uA1uA0lA", NONE);
        faultOf("T0f10sA1sA0uA0lA", 15);
        faultOf("T0lA0lB0lC0lD0l", 14);
        faultOf("T0lA0sB0lC0sD0s", 14);
        faultOf("T0lA0lB0lC0lD0r", 15);
        faultOf("T0f10sA0sB0sC0sD1s", 18);
        faultOf("T0f10sA0sB0sC0sD1l", 17);
        faultOf("T0f10sA0sB0sC0sD0s", 17);
        faultOf("T0f10sA0sB0sC0lD1sD", 18);
    }

    private static void faultOfThreads() {
        faultOf("T0f0", 3);
        faultOf("T0f11ra", NONE);
        faultOf("T0f10f1", 6);
        faultOf("T0f10f20f30f", 11);
        faultOf("T0f11f22f33ra", NONE);
        faultOf("T0j", 2);
        faultOf("T0f10j0", 6);
        faultOf("T0f10j2", 6);
        faultOf("T0f10j1", NONE);
        faultOf("T0f10j10j", 8);
        faultOf("T0f10j11", 7);
        faultOf("T0f10j10f1", 9);
        faultOf("T0f10j10f2", NONE);
        faultOf("T0f11j0", NONE);
        faultOf("T0f11j00", 7);
        faultOf("T0f11lA0j1", 8);
        faultOf("T0f11sA0j1", 8);
        faultOf("T0f11lA1uA0j1", NONE);
        faultOf("T0f10f21lA0j1", 12);
        faultOf("T0f10f21lA0j2", NONE);
        faultOf("T0lA0f10j1", NONE);
        faultOf("T0lA0f11j", 8);
    }

    private static void promise5() {
        LockWatch x = of("0f1 0wa 1wa");
        x.see(0, 3, 1);
        x.seed(77);
        due("5: keep", x.keep(1), 3);
        due("5: drop", x.drop(2), 2);
        x.write('9');
        due("5: trace with a fault", x.trace(), STATE);
        due("5: the acts are as they were", x.count(7), 1);
        due("5: the steps are as they were", x.count(1), 2);
        due("5: what was kept is as it was", x.again(1), 3);
        due("5: drop", x.drop(2), 2);
        tell(x, "T0lA0rb");
        due("5: trace", x.trace(), 2);
        due("5: the text stays", x.count(0), 7);
        due("5: no acts", x.count(7), 0);
        due("5: nothing to undo", x.undo(), STATE);
        due("5: nothing kept", x.again(1), STATE);
        due("5: seen stays", x.count(8), 1);
        due("5: the seed stays", x.seed(0), 77);
        due("5: trace again", x.trace(), 2);
        tell(x, "T");
        due("5: no steps", x.trace(), 0);
    }

    private static void promise6() {
        LockWatch x = of("0f1 0lA 0sC 0wb 0uA 1sC 1rd");
        int[][] want = {{0, 'f', 1, 0, 0}, {0, 'l', 0, 0, 0}, {0, 's', 2, 1, 0}, {0, 'w', 1, 1, 4}, {0, 'u', 0, 1, 4},
            {1, 's', 2, 0, 0}, {1, 'r', 3, 0, 4}};
        for (int i = 0; i < want.length; i++) {
            for (int part = 0; part < 5; part++) {
                due("6: step(" + i + ", " + part + ")", x.step(i, part), want[i][part]);
            }
        }
        refusesAll("6: step", UNKNOWN, x.step(-1, 0), x.step(7, 0), x.step(7, 9), x.step(LEAST, -1), x.step(MOST, 0));
        refusesAll("6: what", OUTSIDE, x.step(0, -1), x.step(0, 5), x.step(6, MOST), x.step(6, LEAST));
    }

    // ---- acts

    private static void promise7() {
        LockWatch x = of("0f1 0lA 0wa 0uA 1lA 1wa");
        LockWatch was = of("0f1 0lA 0wa 0uA 1lA 1wa");
        due("7: drop of a start that is needed", x.drop(0), STATE);
        due("7: drop of a lock that is given back", x.drop(1), STATE);
        due("7: drop of what gives a lock back that is taken", x.drop(3), STATE);
        refusesAll("7: drop", UNKNOWN, x.drop(-1), x.drop(6), x.drop(LEAST), x.drop(MOST));
        sameSteps("7: refused", x, was);
        due("7: no acts", x.count(7), 0);
        due("7: drop", x.drop(2), 5);
        sameSteps("7: dropped", x, of("0f1 0lA 0uA 1lA 1wa"));
        due("7: drop of the last one", x.drop(4), 4);
        due("7: acts", x.count(7), 2);
        due("7: drop of none", x.drop(4), UNKNOWN);
        LockWatch y = of("0f1 0j1");
        due("7: drop of an end", y.drop(1), 1);
        due("7: then of the start", y.drop(0), 0);
        due("7: nothing is left", y.drop(0), UNKNOWN);
    }

    private static void promise8() {
        LockWatch x = of("0f1 0ra 1wb 0lA 0uA 1lA");
        LockWatch was = of("0f1 0ra 1wb 0lA 0uA 1lA");
        due("8: swap of a lock and its giving back", x.swap(3), STATE);
        due("8: swap of giving back and taking", x.swap(4), STATE);
        refusesAll("8: swap", UNKNOWN, x.swap(-1), x.swap(5), x.swap(6), x.swap(LEAST), x.swap(MOST));
        sameSteps("8: refused", x, was);
        due("8: its thread", x.swap(1), 0);
        due("8: its thread, the other way", x.swap(1), 1);
        due("8: acts", x.count(7), 2);
        due("8: swap", x.swap(0), 0);
        sameSteps("8: swapped", x, of("0ra 0f1 1wb 0lA 0uA 1lA"));
        due("8: a start and a step of its thread", x.swap(1), STATE);
        LockWatch y = of("0ra 0ra");
        due("8: two like steps", y.swap(0), 0);
        due("8: an act all the same", y.count(7), 1);
        LockWatch z = of("0ra");
        due("8: one step", z.swap(0), UNKNOWN);
    }

    private static void promise9() {
        LockWatch x = of("0f1 0ra 1wb 0lA 1rc");
        LockWatch was = of("0f1 0ra 1wb 0lA 1rc");
        due("9: undo of none", x.undo(), STATE);
        x.swap(1);
        x.drop(4);
        x.drop(1);
        x.swap(1);
        due("9: undo", x.undo(), 3);
        due("9: undo", x.undo(), 2);
        due("9: undo", x.undo(), 1);
        due("9: undo", x.undo(), 0);
        sameSteps("9: undone", x, was);
        due("9: undo of none", x.undo(), STATE);
        LockWatch y = of("0ra 0rb 0rc 0rd");
        y.swap(2);
        for (int i = 0; i < 14; i++) {
            y.swap(0);
            due("9: acts", y.count(7), Math.min(14, i + 2));
        }
        y.swap(1);
        due("9: 14 at most", y.count(7), 14);
        for (int left = 13; left >= 0; left--) {
            due("9: undo", y.undo(), left);
        }
        due("9: what is forgotten is not undone", y.undo(), STATE);
        sameSteps("9: two forgotten", y, of("0rb 0ra 0rd 0rc"));
        LockWatch z = of("0ra 0ra 0ra 0ra 0ra 0ra 0ra 0ra 0ra 0ra 0ra 0ra 0ra 0ra 0ra 0ra 0rb 0rc 0rd 0ra");
        for (int i = 0; i < 16; i++) {
            z.drop(0);
        }
        for (int i = 0; i < 14; i++) {
            z.undo();
        }
        due("9: two drops forgotten", z.count(1), 18);
        LockWatch mixed = of("0ra 0rb 0rc 0rd 0wa 0wb 0wc 0wd");
        mixed.swap(0);
        mixed.drop(7);
        mixed.swap(1);
        mixed.drop(6);
        for (int i = 0; i < 12; i++) {
            mixed.swap(3);
        }
        for (int left = 13; left >= 0; left--) {
            due("9: undo", mixed.undo(), left);
        }
        sameSteps("9: a swap and a drop forgotten", mixed, of("0rb 0ra 0rc 0rd 0wa 0wb 0wc"));
        due("9: the step there", z.step(14, 2), 1);
    }

    // ---- cells

    private static void cellIs(LockWatch x, int cell, int n, int... want) {
        for (int what = 0; what < want.length; what++) {
            due("10: cell(" + cell + ", " + n + ", " + what + ")", x.cell(cell, n, what), want[what]);
        }
    }

    private static void promise10() {
        LockWatch x = of("0f1 0lA 0sB 0wa 0ra 0uA 0uB 1lA 1sC 1ra 1wa 1uA 1ra 0ra");
        cellIs(x, 0, 0, 0, 15, NONE, NONE, 0);
        cellIs(x, 0, 3, 0, 15, NONE, NONE, 0);
        cellIs(x, 0, 4, 1, 15, 0, NONE, 1);
        cellIs(x, 0, 5, 1, 15, 0, NONE, 2);
        cellIs(x, 0, 10, 2, 5, NONE, NONE, 3);
        cellIs(x, 0, 11, 3, 1, NONE, NONE, 4);
        cellIs(x, 0, 12, 3, 1, NONE, NONE, 4);
        cellIs(x, 0, 13, 3, 0, NONE, 12, 5);
        cellIs(x, 0, 14, 3, 0, NONE, 12, 6);
        cellIs(x, 3, 14, 0, 15, NONE, NONE, 0);
        refusesAll("10: cell", UNKNOWN, x.cell(-1, 0, 0), x.cell(4, 99, 99), x.cell(LEAST, 0, 0), x.cell(MOST, 0, 0));
        refusesAll("10: cell", OUTSIDE, x.cell(0, -1, 0), x.cell(0, 15, 0), x.cell(0, 0, 5), x.cell(0, 0, -1),
            x.cell(3, MOST, 0), x.cell(3, LEAST, 0), x.cell(0, 14, MOST), x.cell(0, 14, LEAST));
        LockWatch reads = of("0f1 0ra 1ra 0ra");
        cellIs(reads, 0, 4, 2, 0, NONE, NONE, 3);
        LockWatch later = of("0f1 0ra 1ra 0wa");
        cellIs(later, 0, 4, 3, 0, NONE, 3, 3);
        LockWatch atOnce = of("0f1 0wa 1wa 0wa");
        cellIs(atOnce, 0, 4, 3, 0, NONE, 2, 3);
        LockWatch readLock = of("0f1 0wa 1sA 1wa");
        cellIs(readLock, 0, 4, 3, 0, NONE, 3, 2);
        LockWatch alone = of("0f1 1wd 1rd 1wd");
        cellIs(alone, 3, 4, 1, 15, 1, NONE, 3);
        LockWatch fromTheFirst = of("0wb 0f1 1wb");
        cellIs(fromTheFirst, 1, 1, 1, 15, 0, NONE, 1);
        cellIs(fromTheFirst, 1, 3, 3, 0, NONE, 2, 2);
        LockWatch ended = of("0f1 1wd 0j1 0wd");
        cellIs(ended, 3, 4, 3, 0, NONE, 3, 2);
    }

    private static void promise11() {
        LockWatch x = of("0f1 0ra 1rb 1f2 2wc 2ra 1j2 0rd 0j1 0wa");
        String[] rows = {"0111111111", "0000000111", "0001111011", "0000111011", "0000011011", "0000001011", "0000000011",
            "0000000011", "0000000001", "0000000000"};
        for (int i = 0; i < 10; i++) {
            for (int j = 0; j < 10; j++) {
                due("11: ahead(" + i + ", " + j + ")", x.ahead(i, j), rows[i].charAt(j) - '0');
            }
        }
        refusesAll("11: ahead", UNKNOWN, x.ahead(-1, 0), x.ahead(0, -1), x.ahead(10, 0), x.ahead(0, 10),
            x.ahead(MOST, MOST), x.ahead(LEAST, 0), x.ahead(0, LEAST), x.ahead(0, MOST));
        LockWatch through = of("0f1 0f2 1f3 3ra 2j3");
        due("11: a start ahead of a wait, by a step of the thread", through.ahead(2, 4), 1);
        LockWatch idle = of("0f1 0f2 1f3 2j3");
        due("11: a thread without steps puts nothing ahead", idle.ahead(2, 3), 0);
    }

    private static void promise12() {
        LockWatch x = of("0f1 0f2 0wa 1ra 2wa 1wa 2ra 0rb 1rb");
        due("12: meetings(0, 0)", x.meetings(0, 0), 7);
        due("12: meetings(0, 1)", x.meetings(0, 1), 203);
        due("12: reads do not meet", x.meetings(1, 0), 0);
        due("12: reads do not meet", x.meetings(1, 1), NONE);
        due("12: count(6)", x.count(6), 1);
        refusesAll("12: meetings", UNKNOWN, x.meetings(-1, 0), x.meetings(4, 9), x.meetings(MOST, 0), x.meetings(LEAST, 0));
        refusesAll("12: meetings", OUTSIDE, x.meetings(0, -1), x.meetings(3, 2), x.meetings(0, MOST), x.meetings(0, LEAST));
        LockWatch guarded = of("0f1 0lA 0wb 0uA 1sA 1rb 1wb");
        due("12: written under a lock, read under it to read", guarded.meetings(1, 0), 1);
        due("12: a write under it to read", guarded.meetings(1, 1), 206);
        LockWatch ordered = of("0wa 0f1 1wa 0j1 0wa");
        due("12: starts and ends keep apart", ordered.meetings(0, 0), 0);
        LockWatch before = of("0f1 0wa 1wa 0j1 0wa");
        due("12: only ahead of the end", before.meetings(0, 1), 102);
        due("12: one", before.meetings(0, 0), 1);
        LockWatch unlike = of("0f1 0lA 0wd 0uA 1lB 1wd");
        due("12: unlike locks", unlike.meetings(3, 1), 205);
    }

    // ---- rings

    private static void promise13() {
        LockWatch x = of("0f1 0lA 0sB 0lC 0uB 0lB 0uB 1sB 1sD");
        int[] want = {0, 2, 1, 0, 0, 0, 1, 1, 0, 1, 0, 0, 0, 0, 0, 0};
        due("13: all", x.edges(0), 6);
        for (int i = 0; i < 16; i++) {
            due("13: edges(" + (i + 1) + ")", x.edges(i + 1), want[i]);
        }
        refusesAll("13: edges", OUTSIDE, x.edges(-1), x.edges(17), x.edges(LEAST), x.edges(MOST));
    }

    private static void ringsAre(String what, LockWatch x, int size, int... want) {
        for (int sort = 0; sort < 4; sort++) {
            due("14: " + what + ": rings(" + size + ", " + sort + ")", x.rings(size, sort), want[sort]);
        }
    }

    private static final String TWO = "0f1 0lA 0lB 0uB 0uA 1lB 1lA";
    private static final String THREE = "0f1 0f2 0lA 0lB 0uB 0uA 1lB 1lC 1uC 1uB 2lC 2lA";
    private static final String FOUR = "0f1 0f2 0f3 0lA 0lB 0uB 0uA 1lB 1lC 1uC 1uB 2lC 2lD 2uD 2uC 3lD 3lA";

    private static void promise14() {
        ringsAre("two", of(TWO), 2, 1, 0, 0, 1);
        ringsAre("two", of(TWO), 3, 0, 0, 0, 0);
        ringsAre("three", of(THREE), 3, 1, 0, 0, 1);
        ringsAre("three", of(THREE), 2, 0, 0, 0, 0);
        ringsAre("four", of(FOUR), 4, 1, 0, 0, 1);
        ringsAre("four", of(FOUR), 3, 0, 0, 0, 0);
        ringsAre("one thread", of("0lA 0lB 0uB 0uA 0lB 0lA"), 2, 0, 0, 0, 0);
        ringsAre("taken to read, held to read", of("0f1 0lA 0sB 0uB 0uA 1sB 1lA"), 2, 0, 0, 0, 0);
        ringsAre("the other way round", of("0f1 0sA 0lB 0uB 0uA 1lB 1sA"), 2, 0, 0, 0, 0);
        ringsAre("taken to read, held to write", of("0f1 0lA 0sB 0uB 0uA 1lB 1lA"), 2, 1, 0, 0, 1);
        ringsAre("taken to write, held to read", of("0f1 0lA 0lB 0uB 0uA 1sB 1lA"), 2, 1, 0, 0, 1);
        ringsAre("both ways crossed", of("0f1 0sA 0sB 0uB 0uA 1lB 1lA"), 2, 1, 0, 0, 1);
        ringsAre("gated", of("0f1 0lD 0lA 0lB 0uB 0uA 0uD 1lD 1lB 1lA"), 2, 1, 1, 0, 0);
        ringsAre("a gate to write and to read", of("0f1 0lD 0lA 0lB 0uB 0uA 0uD 1sD 1lB 1lA"), 2, 1, 1, 0, 0);
        ringsAre("a gate to read and to write", of("0f1 0sD 0lA 0lB 0uB 0uA 0uD 1lD 1lB 1lA"), 2, 1, 1, 0, 0);
        ringsAre("both to read: no gate", of("0f1 0sD 0lA 0lB 0uB 0uA 0uD 1sD 1lB 1lA"), 2, 1, 0, 0, 1);
        ringsAre("ordered by a start", of("0lA 0lB 0uB 0uA 0f1 1lB 1lA"), 2, 1, 0, 1, 0);
        ringsAre("ordered by an end", of("0f1 1lB 1lA 1uA 1uB 0j1 0lA 0lB"), 2, 1, 0, 1, 0);
        ringsAre("gated and ordered", of("0lD 0lA 0lB 0uB 0uA 0uD 0f1 1lD 1lB 1lA"), 2, 1, 1, 1, 0);
        ringsAre("two by one edge", of("0f1 0lA 0lB 0uB 0lB 0uB 0uA 1lB 1lA"), 2, 2, 0, 0, 2);
        ringsAre("a gate that is a lock of the ring",
            of("0f1 0f2 0lA 0lC 0lB 0uB 0uC 0uA 1lB 1lC 1uC 1uB 2lC 2lA"), 3, 1, 1, 0, 0);
        ringsAre("a thread twice", of("0f1 0lA 0lB 0uB 0uA 1lB 1lC 1uC 1uB 0lC 0lA"), 3, 0, 0, 0, 0);
        ringsAre("a thread twice, not the first",
            of("0f1 0f2 0lA 0lB 0uB 0uA 1lB 1lC 1uC 1uB 2lC 2lD 2uD 2uC 1lD 1lA"), 4, 0, 0, 0, 0);
        ringsAre("a lock twice", of("0f1 0f2 0f3 0lA 0lB 0uB 0uA 1lB 1lC 1uC 1uB 2lC 2lB 2uB 2uC 3lB 3lA"), 4, 0, 0, 0, 0);
        ringsAre("a lock twice", of("0f1 0f2 0f3 0lA 0lB 0uB 0uA 1lB 1lC 1uC 1uB 2lC 2lB 2uB 2uC 3lB 3lA"), 2, 2, 0, 0, 2);
        String wayOn = "0f1 0f2 0f3 0sA 0lB 0uB 0uA 1lB 1sA 1uA 1uB 2lA 2lC 2uC 2uA 3lC 3lA";
        ringsAre("no way on through the first lock", of(wayOn), 4, 0, 0, 0, 0);
        ringsAre("no way on through the first lock", of(wayOn), 2, 1, 0, 0, 1);
        LockWatch x = of(TWO);
        refusesAll("14: rings", OUTSIDE, x.rings(1, 0), x.rings(5, 0), x.rings(2, -1), x.rings(2, 4), x.rings(0, 0),
            x.rings(LEAST, 0), x.rings(MOST, 0), x.rings(4, LEAST), x.rings(4, MOST));
    }

    private static void promise15() {
        due("15: two", of(TWO).first(), 307);
        due("15: three", of(THREE).first(), 40812);
        due("15: four", of(FOUR).first(), 5091317);
        due("15: as the ring goes", of("0f1 0f2 0lA 0lB 0uB 0uA 2lC 2lA 2uA 2uC 1lB 1lC").first(), 41208);
        due("15: gated", of("0f1 0lD 0lA 0lB 0uB 0uA 0uD 1lD 1lB 1lA").first(), NONE);
        due("15: ordered", of("0lA 0lB 0uB 0uA 0f1 1lB 1lA").first(), NONE);
        due("15: the least", of("0f1 0lA 0lB 0uB 0lB 0uB 0uA 1lB 1lA").first(), 309);
        due("15: the least, the second one", of("0f1 1lB 1lA 1uA 1lA 1uA 1uB 0lA 0lB").first(), 309);
        due("15: no steps", new LockWatch().first(), NONE);
        due("15: not the ordered one, though it is less",
            of("0lA 0lB 0uB 0uA 0f1 0lA 0lB 0uB 0uA 1lB 1lA").first(), 711);
    }

    private static void promise16() {
        LockWatch x = of(TWO + " 1wa");
        due("16: n", x.judge(0, 0), OUTSIDE);
        refusesAll("16: judge", OUTSIDE, x.judge(5, 0), x.judge(-1, 0), x.judge(LEAST, 0), x.judge(MOST, 0),
            x.judge(1, -1), x.judge(1, 10000), x.judge(2, 100000000L), x.judge(3, 1000000000000L),
            x.judge(4, 10000000000000000L), x.judge(4, Long.MAX_VALUE), x.judge(4, Long.MIN_VALUE));
        due("16: dropped", x.judge(1, 1070), NONE);
        due("16: dropped, not to be", x.judge(1, 1000), 0);
        due("16: dropped, no such step", x.judge(1, 1080), 0);
        due("16: dropped, with another figure", x.judge(1, 1071), 0);
        due("16: dropped, then another one of that number", x.judge(2, 10701070L), 1);
        due("16: dropped from behind", x.judge(4, 1070106010505001L), 3);
        due("16: swapped", x.judge(1, 2060), NONE);
        due("16: swapped, not to be", x.judge(1, 2000 + 20), 0);
        due("16: swapped, none behind", x.judge(1, 2070), 0);
        due("16: swapped, with another figure", x.judge(1, 2061), 0);
        due("16: in a state", x.judge(2, 30013100L), NONE);
        due("16: in another state", x.judge(1, 3000), 0);
        due("16: in no state", x.judge(1, 3004), 0);
        due("16: no such cell", x.judge(1, 3400), 0);
        due("16: with another figure", x.judge(1, 3011), 0);
        due("16: state when dropped", x.judge(2, 10703000L), NONE);
        due("16: not flagged", x.judge(1, 4000), NONE);
        due("16: flagged", x.judge(1, 4001), 0);
        due("16: flagged, neither", x.judge(1, 4002), 0);
        due("16: flagged, no such cell", x.judge(1, 4400), 0);
        due("16: flagged, with another figure", x.judge(1, 4010), 0);
        due("16: rings", x.judge(3, 500050015002L), 2);
        due("16: rings, with other figures", x.judge(1, 5010), 0);
        due("16: rings, with other figures", x.judge(1, 5100), 0);
        due("16: held", x.judge(2, 60206061L), NONE);
        due("16: not held", x.judge(1, 6022), 0);
        due("16: held, no such lock", x.judge(1, 6024), 0);
        due("16: held, no such step", x.judge(1, 6080), 0);
        due("16: nothing told", x.judge(1, 0), 0);
        due("16: the first is the highest", x.judge(2, 5000), 0);
        refusesAll("16: no such doing", 0, x.judge(1, 7000), x.judge(1, 8000), x.judge(1, 9000), x.judge(1, 999));
        due("16: four", x.judge(4, 5001600000000000L), 1);
        due("16: four, all so", x.judge(4, 5001602020603003L), 3);
        sameSteps("16: nothing is changed", x, of(TWO + " 1wa"));
        due("16: no acts", x.count(7), 0);
        LockWatch y = of("0f1 0wa 1wa");
        due("16: flagged", y.judge(3, 400110204000L), NONE);
        due("16: flagged, though dropped", y.judge(2, 10204001L), 1);
    }

    // ---- seen

    private static void promise17() {
        LockWatch x = new LockWatch();
        refusesAll("17: see", UNKNOWN, x.see(-1, 0, 0), x.see(4, 9, 9), x.see(LEAST, 0, 0), x.see(MOST, 0, 0));
        refusesAll("17: see", OUTSIDE, x.see(0, -1, 0), x.see(0, 4, 0), x.see(0, 0, -1), x.see(0, 0, 2),
            x.see(3, LEAST, 0), x.see(3, MOST, 0), x.see(3, 0, LEAST), x.see(3, 0, MOST));
        for (int i = 1; i <= 6; i++) {
            due("17: see", x.see(i % 4, 3, 1), i);
        }
        due("17: the seventh", x.see(0, 0, 0), FULL);
        due("17: the seventh, no such cell", x.see(4, 0, 0), UNKNOWN);
        due("17: the seventh, outside", x.see(0, 4, 0), OUTSIDE);
        due("17: count", x.count(8), 6);
    }

    private static void promise18() {
        LockWatch x = of("0ra");
        due("18: unsee", x.unsee(), 0);
        x.see(0, 1, 1);
        x.see(0, 2, 1);
        due("18: which", x.which(0), 0);
        due("18: unsee", x.unsee(), 2);
        due("18: unsee", x.unsee(), 0);
        due("18: count", x.count(8), 0);
        due("18: which", x.which(0), 1);
        due("18: see", x.see(0, 0, 1), 1);
        due("18: which", x.which(1), 0);
    }

    private static void promise19() {
        LockWatch x = of("0f1 0wa 1ra 0lA 1wa 0rb 1wb");
        due("19: nothing seen: all touches", x.which(0), 5);
        due("19: the first", x.which(1), 1);
        x.see(1, 1, 1);
        due("19: b is alone", x.which(0), 2);
        due("19: the first", x.which(1), 5);
        x.unsee();
        x.see(0, 2, 1);
        due("19: a is in 2: without the write behind", x.which(0), 1);
        due("19: the first", x.which(1), 4);
        x.see(0, 2, 0);
        due("19: both ways", x.which(0), 0);
        due("19: none", x.which(1), NONE);
        x.unsee();
        x.see(0, 1, 0);
        due("19: a is not in 1", x.which(0), 4);
        due("19: the first is not 1", x.which(1), 2);
        refusesAll("19: which", OUTSIDE, x.which(-1), x.which(2), x.which(LEAST), x.which(MOST));
        LockWatch none = of("0lA");
        due("19: no touches", none.which(0), 0);
        due("19: no touches", none.which(1), NONE);
    }

    // ---- shares, chances

    private static void sharesAre(String steps, int... want) {
        LockWatch x = of(steps);
        for (int lock = 0; lock < 4; lock++) {
            due("20: share(" + lock + ", true) of " + steps, x.share(lock, true), want[2 * lock]);
            due("20: share(" + lock + ", false) of " + steps, x.share(lock, false), want[2 * lock + 1]);
        }
    }

    private static void promise20() {
        sharesAre("0f1 0wa 1lA 1wa", 1, 1, 0, 1, 0, 1, 0, 1);
        sharesAre("0f1 0wa 1lA 1lB 1wa", 1, 2, 1, 2, 0, 1, 0, 1);
        sharesAre("0f1 0wa 1lB 1lC 1lD 1wa", 0, 1, 1, 3, 1, 3, 1, 3);
        sharesAre("0f1 0wa 1lA 1lB 1lC 1lD 1wa", 1, 4, 1, 4, 1, 4, 1, 4);
        sharesAre("0f1 0wa 0wb 1lA 1wb 1lB 1wa", 3, 2, 1, 2, 0, 1, 0, 1);
        sharesAre("0f1 0wa 0wb 1lC 1lA 1wb 1lB 1wa", 5, 6, 1, 3, 5, 6, 0, 1);
        sharesAre("0f1 0wa 1wa", 0, 1, 0, 1, 0, 1, 0, 1);
        sharesAre("0f1 0wa 1sA 1wa", 0, 1, 0, 1, 0, 1, 0, 1);
        sharesAre("0f1 0wa 1sA 1ra 1uA 0lA 0wa", 1, 1, 0, 1, 0, 1, 0, 1);
        LockWatch x = new LockWatch();
        refusesAll("20: share", UNKNOWN, x.share(-1, true), x.share(4, false), x.share(LEAST, true), x.share(MOST, false));
    }

    private static void lostIs(LockWatch x, int cell, int tenths, int above, int below) {
        due("21: lost(" + cell + ", " + tenths + ", true)", x.lost(cell, tenths, true), above);
        due("21: lost(" + cell + ", " + tenths + ", false)", x.lost(cell, tenths, false), below);
    }

    private static void promise21() {
        LockWatch x = of("0f1 0wa 1wa");
        lostIs(x, 0, 0, 1, 1);
        lostIs(x, 0, 3, 49, 100);
        lostIs(x, 0, 5, 1, 4);
        lostIs(x, 0, 10, 0, 1);
        lostIs(x, 1, 5, 0, 1);
        LockWatch three = of("0f1 0wa 1wa 0wa");
        lostIs(three, 0, 5, 3, 8);
        LockWatch guarded = of("0f1 0wa 1lA 1wa 0ra");
        lostIs(guarded, 0, 1, 729, 1000);
        lostIs(guarded, 0, 0, 1, 1);
        LockWatch nine = of("0f1 0wa 0wa 0wa 0wa 0wa 0wa 0wa 0wa 1wa");
        lostIs(nine, 0, 1, 899999991, 1000000000);
        LockWatch ten = of("0f1 0wa 0wa 0wa 0wa 0wa 0wa 0wa 0wa 0ra 1wa 1rb");
        lostIs(ten, 0, 1, FULL, FULL);
        lostIs(ten, 0, 10, FULL, FULL);
        lostIs(ten, 1, 1, 0, 1);
        lostIs(ten, 0, 11, OUTSIDE, OUTSIDE);
        lostIs(ten, 0, -1, OUTSIDE, OUTSIDE);
        lostIs(ten, 0, MOST, OUTSIDE, OUTSIDE);
        lostIs(ten, 0, LEAST, OUTSIDE, OUTSIDE);
        lostIs(ten, 4, 11, UNKNOWN, UNKNOWN);
        lostIs(ten, -1, 0, UNKNOWN, UNKNOWN);
        lostIs(ten, MOST, 0, UNKNOWN, UNKNOWN);
        lostIs(ten, LEAST, 0, UNKNOWN, UNKNOWN);
    }

    private static void promise22() {
        LockWatch x = new LockWatch();
        due("22: seed", x.seed(Long.MIN_VALUE), 0);
        due("22: seed", x.seed(Long.MAX_VALUE), Long.MIN_VALUE);
        due("22: seed", x.seed(-1), Long.MAX_VALUE);
        due("22: seed", x.seed(0), -1);
    }

    private static void drawnIs(int m, int want, long seedThen) {
        LockWatch x = of("0f1 0wa 1wa 0wb 1wb");
        due("23: drawn(" + m + ")", x.drawn(m), want);
        due("23: the seed then", x.seed(0), seedThen);
        sameSteps("23: nothing is changed", x, of("0f1 0wa 1wa 0wb 1wb"));
        due("23: no acts", x.count(7), 0);
        due("23: from the first steps on again", x.drawn(m), want);
    }

    private static void promise23() {
        drawnIs(1, 1, 1442695040888963407L);
        drawnIs(2, 2, 1876011003808476466L);
        drawnIs(3, 3, -7280499659394350823L);
        drawnIs(4, 3, 7401132627792533940L);
        drawnIs(6, 3, -8100709956324362746L);
        LockWatch x = of("0f1 0wa 1wa 0wb 1wb");
        due("23: drawn(20)", x.drawn(20), 3);
        x.seed(9);
        refusesAll("23: drawn", OUTSIDE, x.drawn(0), x.drawn(21), x.drawn(-1), x.drawn(LEAST), x.drawn(MOST));
        due("23: refused, the seed stays", x.seed(0), 9);
        LockWatch none = new LockWatch();
        due("23: no steps", none.drawn(2), 0);
        due("23: the seed goes on", none.seed(0), 1876011003808476466L);
        LockWatch ring = of("0f1 0lA 0lB 0uB 0uA 1lB 1lA");
        due("23: a ring, a step that can't be dropped", ring.drawn(1), 1);
    }

    // ---- slots

    private static void promise24() {
        LockWatch x = of("0f1 0wa 1wa");
        due("24: keep", x.keep(0), 3);
        x.drop(2);
        due("24: keep", x.keep(1), 2);
        due("24: the acts stay", x.count(7), 1);
        due("24: again", x.again(0), 3);
        due("24: keep over it", x.keep(1), 3);
        due("24: again", x.again(1), 3);
        refusesAll("24: keep", UNKNOWN, x.keep(-1), x.keep(2), x.keep(LEAST), x.keep(MOST));
    }

    private static void promise25() {
        LockWatch x = of("0f1 0wa 1wa 0lB");
        x.see(0, 3, 1);
        x.seed(5);
        x.keep(0);
        x.drop(2);
        x.swap(0);
        due("25: never kept", x.again(1), STATE);
        due("25: the acts are as they were", x.count(7), 2);
        due("25: again", x.again(0), 4);
        sameSteps("25: as kept", x, of("0f1 0wa 1wa 0lB"));
        due("25: no acts", x.count(7), 0);
        due("25: nothing to undo", x.undo(), STATE);
        due("25: flagged", x.cell(0, 4, 3), 2);
        due("25: held in the end", x.count(4), 2);
        due("25: seen stays", x.count(8), 1);
        due("25: the seed stays", x.seed(5), 5);
        x.drop(3);
        due("25: again, once more", x.again(0), 4);
        refusesAll("25: again", UNKNOWN, x.again(-1), x.again(2), x.again(LEAST), x.again(MOST));
        LockWatch none = new LockWatch();
        due("25: no steps kept", none.keep(1), 0);
        due("25: no steps again", none.again(1), 0);
        due("25: the other one", none.again(0), STATE);
    }

    private static void promise26() {
        LockWatch x = of("0f1 0f2 1wa 2wa 0rc 1wc 1j2 0lA 1sD 0wb 1wb");
        x.see(1, 1, 1);
        x.see(1, 1, 0);
        due("26: swap", x.swap(4), 0);
        int[] want = {34, 11, 7, 4, 9, 3, 7, 1, 2};
        for (int i = 0; i < want.length; i++) {
            due("26: count(" + i + ")", x.count(i), want[i]);
        }
        refusesAll("26: count", OUTSIDE, x.count(-1), x.count(9), x.count(LEAST), x.count(MOST));
        LockWatch y = of("0wa 0f1 1wa 0j1");
        due("26: flagged", y.count(5), 1);
        due("26: but no meetings", y.count(6), 0);
        due("26: ended", y.count(3), 2);
        due("26: started all the same", y.count(2), 3);
        LockWatch z = of("0f1 0sA 1sA 0uA");
        due("26: still held by one", z.count(4), 1);
    }

    public static void main(String[] args) {
        promise1();
        promise2();
        promise3();
        promise4();
        promise5();
        promise6();
        promise7();
        promise8();
        promise9();
        promise10();
        promise11();
        promise12();
        promise13();
        promise14();
        promise15();
        promise16();
        promise17();
        promise18();
        promise19();
        promise20();
        promise21();
        promise22();
        promise23();
        promise24();
        promise25();
        promise26();
        System.out.println(wrong == 0 ? checks + " answers are as due" : wrong + " answers are not as due");
        if (wrong != 0) {
            System.exit(1);
        }
    }
}
