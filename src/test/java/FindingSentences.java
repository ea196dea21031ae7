import java.util.LinkedHashMap;
import java.util.List;
import java.util.Map;
import java.util.function.Function;
import java.util.function.Supplier;

/** Sentences of promises 13 to 15: possibly, witness, definitely, pathLength and pathStep. */
final class FindingSentences {
    private static final int CONJ = CutLatticeDetect.MODE_CONJ;
    private static final int GE = CutLatticeDetect.MODE_SUM_GE;
    private static final int LE = CutLatticeDetect.MODE_SUM_LE;
    private static final List<Supplier<CutLatticeDetect>> SCENES = List.of(Scene::busy, Scene::busyBySum,
            Scene::busyWithoutResults, Scene::busyWithWitness, Scene::busyWithPath, Scene::allSent,
            Scene::withEmptyPath, Scene::withInitialWitness, Scene::crossing);

    private FindingSentences() {
    }

    static void testAll(Sentences s) {
        testPossibly(s);
        testWitness(s);
        testDefinitely(s);
        testPath(s);
    }

    private static void testPossibly(Sentences s) {
        s.in("Promise 13");
        s.test("`possibly()` answers true iff some consistent cut satisfies the predicate.",
                FindingSentences::possiblyIfSomeCutSatisfies);
        s.test("If true, the witness becomes the least such cut: least level first", FindingSentences::leastLevel);
        s.test("among equal levels, lexicographically least by (c_0, c_1, .., c_{P-1}).",
                FindingSentences::lexicographicallyLeast);
        s.test("If false, the witness becomes none.", FindingSentences::falseLeavesNoWitness);
        s.test("The recorded path is not changed, and nothing else changes.",
                FindingSentences::possiblyChangesTheWitnessAlone);
    }

    private static void testWitness(Sentences s) {
        s.test("`witness(p)` answers component p of the witness.", FindingSentences::witnessTellsComponents);
        s.test("It answers -1 if there is no witness", FindingSentences::noWitness);
        s.test("or p is not in 0..P-1.", FindingSentences::witnessOfNoProcess);
        s.test("It changes nothing.", FindingSentences::witnessChangesNothing);
        s.test("The witness stays as left by the last `possibly()` until a later `possibly()` or a successful"
                + " `setInitial`, `setBounds`, `setPredicate`, `local`, `send` or `receive`.",
                FindingSentences::witnessStays);
    }

    private static void testDefinitely(Sentences s) {
        s.in("Promise 14");
        s.test("`definitely()` answers true iff no avoiding path exists, that is, every path of consistent cuts from"
                + " the initial cut to the final cut passes through a cut that satisfies the predicate.",
                FindingSentences::definitelyIfNoPathAvoids);
        s.test("If true, the recorded path becomes none.", FindingSentences::trueLeavesNoPath);
        s.test("If false, the recorded path becomes the lexicographically least avoiding path",
                FindingSentences::leastPath);
        s.test("a sequence of N process numbers in which each p < P occurs exactly n_p times.",
                FindingSentences::everyProcessOccursAsOften);
        s.test("The witness is not changed, and nothing else changes.",
                FindingSentences::definitelyChangesThePathAlone);
        s.test("Edges: if the initial cut", FindingSentences::initialSatisfies);
        s.test("or the final cut satisfies the predicate, no avoiding path exists and the answer is true.",
                FindingSentences::finalSatisfies);
        s.test("When N = 0 the initial and final cut coincide; the only path has zero steps, so the answer is false"
                + " exactly when that cut does not satisfy the predicate", FindingSentences::withoutEvents);
        s.test("and then the recorded path is the empty step sequence.", FindingSentences::emptyPathIsRecorded);
    }

    private static void testPath(Sentences s) {
        s.in("Promise 15");
        s.test("`pathLength()` answers N (the number of steps) of the recorded path", FindingSentences::lengthIsN);
        s.test("or -1 if there is none.", FindingSentences::lengthOfNone);
        s.test("A recorded empty path gives 0.", FindingSentences::lengthOfEmpty);
        s.test("`pathStep(i)` answers step i of the recorded path: the process whose component increases in going"
                + " from cut i to cut i+1 of the path.", FindingSentences::stepsInOrder);
        s.test("It answers -1 if there is no recorded path", FindingSentences::noStepOfNone);
        s.test("or i is not in 0..N-1.", FindingSentences::noStepOutside);
        s.test("Both change nothing.", FindingSentences::pathGettersChangeNothing);
        s.test("The recorded path stays as left by the last `definitely()` until a later `definitely()` or a"
                + " successful `setInitial`, `setBounds`, `setPredicate`, `local`, `send` or `receive`.",
                FindingSentences::pathStays);
    }

    private static void possiblyIfSomeCutSatisfies(Check check) {
        CutLatticeDetect x = Scene.full(4);
        for (int p = 0; p < 4; p++) {
            x.setBounds(p, 6, 6);
        }
        check.due("the final cut alone", x.possibly(), true);
        x.setBounds(3, 7, 7);
        check.due("none", x.possibly(), false);
        for (int p = 0; p < 4; p++) {
            x.setBounds(p, 0, 0);
        }
        check.due("the initial cut alone", x.possibly(), true);
        CutLatticeDetect crossing = Scene.crossing();
        crossing.setBounds(0, 20, 20);
        crossing.setBounds(1, 0, 0);
        check.due("an inconsistent cut alone", crossing.possibly(), false);
        crossing.setBounds(1, 100, 100);
        check.due("a consistent one", crossing.possibly(), true);
    }

    private static void leastLevel(Check check) {
        CutLatticeDetect x = new CutLatticeDetect(4, 6);
        x.local(0, 5);
        for (int p = 1; p < 4; p++) {
            x.local(p, 0);
            x.local(p, 5);
        }
        x.setPredicate(GE, 5);
        x.possibly();
        // (0, 0, 0, 2) would be lexicographically less.
        check.dueWitness("level 1", x, 1, 0, 0, 0);
        x.setPredicate(GE, 10);
        x.possibly();
        check.dueWitness("level 3", x, 1, 0, 0, 2);
        x.setPredicate(LE, 0);
        x.possibly();
        check.dueWitness("level 0", x, 0, 0, 0, 0);
        x.setPredicate(GE, 20);
        x.possibly();
        check.dueWitness("level 7, the final cut", x, 1, 2, 2, 2);
    }

    private static void lexicographicallyLeast(Check check) {
        for (int p = 0; p < 4; p++) {
            CutLatticeDetect x = new CutLatticeDetect(4, 6);
            // Only p and those before it can bring the sum to 1: p is the last of them.
            for (int q = 0; q <= p; q++) {
                x.local(q, 1);
            }
            x.setPredicate(GE, 1);
            x.possibly();
            check.dueWitness("one step of " + p, x, p == 0 ? 1 : 0, p == 1 ? 1 : 0, p == 2 ? 1 : 0, p == 3 ? 1 : 0);
        }
        CutLatticeDetect x = Scene.full(4);
        int[][] due = {{1, 0, 0, 0, 1}, {6, 0, 0, 0, 6}, {7, 0, 0, 1, 6}, {12, 0, 0, 6, 6}, {13, 0, 1, 6, 6},
            {18, 0, 6, 6, 6}, {19, 1, 6, 6, 6}, {24, 6, 6, 6, 6}};
        for (int[] row : due) {
            x.setPredicate(GE, row[0]);
            x.possibly();
            check.dueWitness("sum " + row[0], x, row[1], row[2], row[3], row[4]);
        }
        CutLatticeDetect y = new CutLatticeDetect(3, 6);
        y.send(2, 1);
        y.receive(1, 0, 1);
        y.local(0, 1);
        y.setPredicate(GE, 2);
        y.possibly();
        check.dueWitness("(0, 1, 1), for (0, 2, 0) is not there", y, 0, 1, 1);
    }

    private static void falseLeavesNoWitness(Check check) {
        CutLatticeDetect x = Scene.busyWithoutResults();
        x.setPredicate(GE, 1000);
        check.due("possibly()", x.possibly(), false);
        check.dueNoWitness("after a false possibly()", x);
        check.due("possibly() again", x.possibly(), false);
        check.dueNoWitness("after another", x);
        CutLatticeDetect y = Scene.busy();
        y.setBounds(0, 1, 0);
        check.due("possibly() with lo > hi", y.possibly(), false);
        check.dueNoWitness("after there was one", y);
    }

    private static void possiblyChangesTheWitnessAlone(Check check) {
        for (Supplier<CutLatticeDetect> scene : SCENES) {
            Unchanged.dueSamePath(check, scene, "possibly()", CutLatticeDetect::possibly);
            Unchanged.dueSameState(check, scene, "possibly()", CutLatticeDetect::possibly);
        }
    }

    private static void witnessTellsComponents(Check check) {
        CutLatticeDetect x = Scene.full(4);
        for (int p = 0; p < 4; p++) {
            x.setBounds(p, p + 2, 9);
        }
        x.possibly();
        check.dueWitness("four different ones", x, 2, 3, 4, 5);
    }

    private static void noWitness(Check check) {
        CutLatticeDetect x = new CutLatticeDetect(4, 6);
        check.dueNoWitness("before possibly()", x);
        x.setBounds(0, 1, 1);
        x.possibly();
        check.dueNoWitness("after a false one", x);
        x.setBounds(0, 0, 0);
        x.possibly();
        check.dueWitness("after a true one", x, 0, 0, 0, 0);
        x.definitely();
        check.dueWitness("after definitely()", x, 0, 0, 0, 0);
    }

    private static void witnessOfNoProcess(Check check) {
        for (int procs = 1; procs <= 4; procs++) {
            CutLatticeDetect x = Scene.full(procs);
            for (int p = 0; p < procs; p++) {
                x.setBounds(p, 6, 6);
            }
            x.possibly();
            check.due("witness(0)", x.witness(0), 6);
            check.due("witness(P-1)", x.witness(procs - 1), 6);
            for (int p : Scene.outside(procs)) {
                check.due("witness(" + p + ") of " + procs, x.witness(p), -1);
            }
        }
    }

    private static void witnessChangesNothing(Check check) {
        for (Supplier<CutLatticeDetect> scene : SCENES) {
            for (int p = -1; p <= 4; p++) {
                int of = p;
                Unchanged.dueByGetter(check, scene, "witness(" + p + ")", x -> x.witness(of));
            }
        }
        check.dueWitness("of the busy scene", Scene.busy(), 1, 0, 0, 0);
    }

    /** Calls on the busy scenes that leave the results alone: getters, and every kind of refused call. */
    private static Map<String, Function<CutLatticeDetect, Object>> quietCalls() {
        Map<String, Function<CutLatticeDetect, Object>> calls = new LinkedHashMap<>();
        calls.put("setInitial(4, 1)", x -> x.setInitial(4, 1));
        calls.put("setInitial(0, 1)", x -> x.setInitial(0, 1));
        calls.put("setBounds(-1, 1, 1)", x -> x.setBounds(-1, 1, 1));
        calls.put("setPredicate(3, 1)", x -> x.setPredicate(3, 1));
        calls.put("local(4, 1)", x -> x.local(4, 1));
        calls.put("local(0, 1)", x -> x.local(0, 1));
        calls.put("send(-1, 1)", x -> x.send(-1, 1));
        calls.put("send(0, 1)", x -> x.send(0, 1));
        calls.put("receive(4, 1, 1)", x -> x.receive(4, 1, 1));
        calls.put("receive(0, 2, 1)", x -> x.receive(0, 2, 1));
        calls.put("receive(3, 3, 1)", x -> x.receive(3, 3, 1));
        calls.put("receive(3, 0, 1)", x -> x.receive(3, 0, 1));
        calls.put("receive(2, 2, 1)", x -> x.receive(2, 2, 1));
        calls.put("eventCount(0)", x -> x.eventCount(0));
        calls.put("stamp(0, 1, 0)", x -> x.stamp(0, 1, 0));
        calls.put("cutState(1, 0, 0, 0)", x -> x.cutState(1, 0, 0, 0));
        calls.put("countConsistent()", x -> x.countConsistent());
        calls.put("countSatisfying()", x -> x.countSatisfying());
        calls.put("witness(0)", x -> x.witness(0));
        calls.put("pathLength()", x -> x.pathLength());
        calls.put("pathStep(0)", x -> x.pathStep(0));
        return calls;
    }

    private static Map<String, Function<CutLatticeDetect, Object>> takenCalls() {
        Map<String, Function<CutLatticeDetect, Object>> calls = new LinkedHashMap<>();
        calls.put("setInitial(3, 4)", x -> x.setInitial(3, 4));
        calls.put("setBounds(0, 1, 2)", x -> x.setBounds(0, 1, 2));
        calls.put("setPredicate(GE, 12)", x -> x.setPredicate(GE, 12));
        calls.put("local(3, 4)", x -> x.local(3, 4));
        calls.put("send(3, 4)", x -> x.send(3, 4));
        calls.put("receive(3, 1, 4)", x -> x.receive(3, 1, 4));
        return calls;
    }

    private static void witnessStays(Check check) {
        CutLatticeDetect x = Scene.busy();
        quietCalls().forEach((name, call) -> {
            call.apply(x);
            check.dueWitness("after " + name, x, 1, 0, 0, 0);
        });
        x.definitely();
        check.dueWitness("after definitely()", x, 1, 0, 0, 0);
        x.possibly();
        check.dueWitness("after a later possibly()", x, 1, 0, 0, 0);
        takenCalls().forEach((name, call) -> {
            CutLatticeDetect y = Scene.busyBySum();
            check.dueWitness("before " + name, y, 0, 0, 1, 0);
            call.apply(y);
            check.dueNoWitness("after " + name, y);
        });
    }

    private static void definitelyIfNoPathAvoids(Check check) {
        CutLatticeDetect level = new CutLatticeDetect(3, 6);
        for (int p = 0; p < 3; p++) {
            level.local(p, 1);
            level.local(p, -1);
        }
        level.setPredicate(GE, 1);
        check.due("every cut of level 1", level.definitely(), true);
        level.setPredicate(GE, 2);
        check.due("not every cut of level 2", level.definitely(), false);
        CutLatticeDetect x = new CutLatticeDetect(2, 6);
        x.send(0, 1);
        x.receive(1, 0, 1);
        x.local(0, 0);
        x.local(1, 0);
        // (1, 0) is the first step of all paths, for (0, 1) is inconsistent.
        x.setBounds(0, 1, 1);
        x.setBounds(1, 0, 0);
        check.due("the only first step", x.definitely(), true);
        x.setBounds(1, 1, 1);
        check.due("(1, 1) has a way around it", x.definitely(), false);
        check.duePath("through (2, 0)", x, 0, 0, 1, 1);
    }

    private static void trueLeavesNoPath(Check check) {
        CutLatticeDetect x = Scene.busy();
        x.setBounds(0, 0, 0);
        check.due("the initial cut satisfies", x.definitely(), true);
        check.dueNoPath("after there was one", x);
        check.due("definitely() again", x.definitely(), true);
        check.dueNoPath("after another", x);
        CutLatticeDetect empty = Scene.withEmptyPath();
        empty.setBounds(0, 0, 0);
        check.due("without events", empty.definitely(), true);
        check.dueNoPath("after the empty one", empty);
    }

    private static void leastPath(Check check) {
        check.duePath("0 first would be caught", Scene.busy(), 2, 0, 0, 0, 1);
        check.duePath("nothing catches 0", Scene.busyBySum(), 0, 0, 0, 1, 2);
        CutLatticeDetect x = new CutLatticeDetect(3, 6);
        x.local(0, 1);
        x.local(0, 2);
        x.local(1, 1);
        x.local(2, 1);
        x.local(2, -3);
        // (1, 0, 0) does not satisfy, but every cut after it that leads on does: it is a dead end.
        x.setPredicate(GE, 2);
        check.due("definitely()", x.definitely(), false);
        check.duePath("2 must go down first", x, 2, 2, 0, 0, 1);
    }

    private static void everyProcessOccursAsOften(Check check) {
        for (int number = 0; number < 7 * 7; number++) {
            int[] n = {number % 7, 6 - number / 7, number % 5 + 2, (number / 7) % 4 + 3};
            CutLatticeDetect x = new CutLatticeDetect(4, 6);
            for (int p = 0; p < 4; p++) {
                for (int k = 1; k <= n[p]; k++) {
                    x.local(p, k);
                }
            }
            x.setBounds(0, 1, 0);
            x.definitely();
            int[] found = new int[4];
            for (int i = 0; i < x.pathLength(); i++) {
                found[Math.max(0, Math.min(3, x.pathStep(i)))]++;
            }
            for (int p = 0; p < 4; p++) {
                check.due("steps of " + p, found[p], n[p]);
            }
            check.due("pathLength()", x.pathLength(), n[0] + n[1] + n[2] + n[3]);
        }
    }

    private static void definitelyChangesThePathAlone(Check check) {
        for (Supplier<CutLatticeDetect> scene : SCENES) {
            Unchanged.dueSameWitness(check, scene, "definitely()", CutLatticeDetect::definitely);
            Unchanged.dueSameState(check, scene, "definitely()", CutLatticeDetect::definitely);
        }
    }

    private static CutLatticeDetect countingUp(int procs) {
        CutLatticeDetect x = new CutLatticeDetect(procs, 6);
        for (int p = 0; p < procs; p++) {
            x.local(p, 1);
        }
        return x;
    }

    private static void initialSatisfies(Check check) {
        for (int procs = 1; procs <= 4; procs++) {
            CutLatticeDetect x = countingUp(procs);
            x.setPredicate(LE, 0);
            check.due("the initial cut alone of " + procs, x.definitely(), true);
            check.dueNoPath("then", x);
            x.setPredicate(LE, -1);
            check.due("not even that", x.definitely(), false);
            check.due("pathLength()", x.pathLength(), procs);
        }
    }

    private static void finalSatisfies(Check check) {
        for (int procs = 1; procs <= 4; procs++) {
            CutLatticeDetect x = countingUp(procs);
            x.setPredicate(GE, procs);
            check.due("the final cut alone of " + procs, x.definitely(), true);
            check.dueNoPath("then", x);
            x.setPredicate(GE, procs + 1);
            check.due("not even that", x.definitely(), false);
            check.due("pathLength()", x.pathLength(), procs);
        }
        CutLatticeDetect all = Scene.full(4);
        all.setPredicate(GE, 24);
        check.due("(6, 6, 6, 6)", all.definitely(), true);
    }

    private static void withoutEvents(Check check) {
        for (int procs = 1; procs <= 4; procs++) {
            CutLatticeDetect x = new CutLatticeDetect(procs, 6);
            check.due("by default", x.definitely(), true);
            x.setInitial(procs - 1, 5);
            for (int t = 4; t <= 6; t++) {
                x.setPredicate(GE, t);
                check.due("5 >= " + t, x.definitely(), 5 >= t);
                x.setPredicate(LE, t);
                check.due("5 <= " + t, x.definitely(), 5 <= t);
                x.setPredicate(CONJ, 0);
                x.setBounds(procs - 1, t, t);
                check.due("5 in " + t + ".." + t, x.definitely(), t == 5);
            }
        }
    }

    private static void emptyPathIsRecorded(Check check) {
        for (int procs = 1; procs <= 4; procs++) {
            CutLatticeDetect x = new CutLatticeDetect(procs, 6);
            x.setPredicate(GE, 1);
            check.due("definitely()", x.definitely(), false);
            check.duePath("the empty one", x);
            check.due("pathStep(-1)", x.pathStep(-1), -1);
            x.setPredicate(GE, 0);
            check.due("definitely()", x.definitely(), true);
            check.dueNoPath("not even the empty one", x);
        }
    }

    private static void lengthIsN(Check check) {
        check.due("busy", Scene.busy().pathLength(), 5);
        check.due("all sent", Scene.allSent().pathLength(), 16);
        CutLatticeDetect x = Scene.full(4);
        x.setBounds(0, 1, 0);
        x.definitely();
        check.due("all full", x.pathLength(), 24);
    }

    private static void lengthOfNone(Check check) {
        CutLatticeDetect x = new CutLatticeDetect(2, 6);
        check.due("at first", x.pathLength(), -1);
        x.definitely();
        check.due("after a true definitely()", x.pathLength(), -1);
        x.possibly();
        check.due("after possibly()", x.pathLength(), -1);
        CutLatticeDetect y = Scene.busy();
        y.local(3, 4);
        check.due("after a new event", y.pathLength(), -1);
    }

    private static void lengthOfEmpty(Check check) {
        check.due("pathLength()", Scene.withEmptyPath().pathLength(), 0);
        check.due("pathStep(0)", Scene.withEmptyPath().pathStep(0), -1);
    }

    private static void stepsInOrder(Check check) {
        check.duePath("busy", Scene.busy(), 2, 0, 0, 0, 1);
        CutLatticeDetect x = new CutLatticeDetect(4, 6);
        // A ring that goes downwards: each event must wait for the one before.
        x.send(3, 1);
        for (int m = 0; m < 6; m++) {
            x.receive((6 - m) % 4, m, 1);
            x.send((6 - m) % 4, 1);
        }
        x.setBounds(0, 5, 5);
        x.definitely();
        check.duePath("down the ring", x, 3, 2, 2, 1, 1, 0, 0, 3, 3, 2, 2, 1, 1);
    }

    private static void noStepOfNone(Check check) {
        CutLatticeDetect x = Scene.allSent();
        x.setBounds(0, 0, 0);
        for (int i : Scene.outside(0)) {
            check.due("after the path was forgotten", x.pathStep(i), -1);
        }
        x.definitely();
        for (int i : Scene.outside(0)) {
            check.due("after a true definitely()", x.pathStep(i), -1);
            check.due("at first", new CutLatticeDetect(4, 6).pathStep(i), -1);
        }
    }

    private static void noStepOutside(Check check) {
        CutLatticeDetect full = Scene.full(4);
        full.setBounds(0, 1, 0);
        full.definitely();
        dueStepsInside(check, full, 24);
        dueStepsInside(check, Scene.busy(), 5);
        dueStepsInside(check, Scene.withEmptyPath(), 0);
        CutLatticeDetect one = new CutLatticeDetect(1, 1);
        one.local(0, 1);
        one.setBounds(0, 5, 5);
        one.definitely();
        dueStepsInside(check, one, 1);
    }

    private static void dueStepsInside(Check check, CutLatticeDetect x, int n) {
        for (int i = -3; i <= 30; i++) {
            check.due("pathStep(" + i + ") of " + n, x.pathStep(i) >= 0, i >= 0 && i < n);
        }
        for (int i : Scene.outside(n)) {
            check.due("pathStep(" + i + ") of " + n, x.pathStep(i), -1);
        }
    }

    private static void pathGettersChangeNothing(Check check) {
        for (Supplier<CutLatticeDetect> scene : SCENES) {
            Unchanged.dueByGetter(check, scene, "pathLength()", x -> x.pathLength());
            for (int i : new int[] {Scene.MIN, -1, 0, 1, 4, 5, 16, 24, Scene.MAX}) {
                Unchanged.dueByGetter(check, scene, "pathStep(" + i + ")", x -> x.pathStep(i));
            }
        }
        check.duePath("of the busy scene", Scene.busy(), 2, 0, 0, 0, 1);
    }

    private static void pathStays(Check check) {
        CutLatticeDetect x = Scene.busy();
        quietCalls().forEach((name, call) -> {
            call.apply(x);
            check.duePath("after " + name, x, 2, 0, 0, 0, 1);
        });
        x.possibly();
        check.duePath("after possibly()", x, 2, 0, 0, 0, 1);
        x.definitely();
        check.duePath("after a later definitely()", x, 2, 0, 0, 0, 1);
        takenCalls().forEach((name, call) -> {
            CutLatticeDetect y = Scene.busyBySum();
            check.duePath("before " + name, y, 0, 0, 0, 1, 2);
            call.apply(y);
            check.dueNoPath("after " + name, y);
        });
    }
}
