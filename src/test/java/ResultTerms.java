import java.util.LinkedHashMap;
import java.util.List;
import java.util.Map;
import java.util.function.Function;
import java.util.function.Supplier;

/** Sentences of "Terms used below" about paths and results. */
final class ResultTerms {
    private static final int GE = CutLatticeDetect.MODE_SUM_GE;
    private static final int LE = CutLatticeDetect.MODE_SUM_LE;
    private static final List<Supplier<CutLatticeDetect>> SCENES = List.of(Scene::withResults, Scene::busy,
            Scene::busyBySum, Scene::busyWithoutResults, Scene::allSent, Scene::withEmptyPath,
            Scene::withInitialWitness);

    private ResultTerms() {
    }

    static void testAll(Sentences s) {
        s.in("Terms used below");
        s.test("A path is a sequence of cuts from the initial cut to the final cut in which each cut is the previous"
                + " one with exactly one component increased by 1.", ResultTerms::pathsLeadFromInitialToFinal);
        s.test("A path has exactly N = n_0 + .. + n_{P-1} steps", ResultTerms::pathsHaveNSteps);
        s.test("An avoiding path is a path all of whose N+1 cuts (initial and final included) are consistent",
                ResultTerms::pathsAreConsistent);
        s.test("(initial and final included) are consistent and do not satisfy the predicate.",
                ResultTerms::pathsAvoidThePredicate);
        s.test("Paths are compared lexicographically by their step sequences: at the first position where they"
                + " differ, the smaller process number is less.", ResultTerms::firstDifferenceDecides);
        s.test("Both are none at first.", ResultTerms::noneAtFirst);
        s.test("Every successful call of `setInitial`, `setBounds`, `setPredicate`, `local`, `send` or `receive` sets"
                + " both to none.", ResultTerms::successForgetsBoth);
        s.test("A refused call changes nothing at all: no value, bound, mode, threshold, event, message, witness or"
                + " path changes.", ResultTerms::refusedChangesNothing);
        s.test("Getters change nothing.", ResultTerms::gettersChangeNothing);
    }

    /** Follows the recorded path; answers the states of its N+1 cuts, and checks where it ends. */
    private static String walk(Check check, CutLatticeDetect x) {
        int[] c = new int[4];
        StringBuilder states = new StringBuilder();
        states.append(x.cutState(c[0], c[1], c[2], c[3]));
        for (int i = 0; i < x.pathLength(); i++) {
            int p = x.pathStep(i);
            check.due("step " + i + " is a process", x.eventCount(p) >= 0, true);
            c[Math.max(0, Math.min(3, p))]++;
            states.append(x.cutState(c[0], c[1], c[2], c[3]));
        }
        for (int p = 0; p < 4; p++) {
            check.due("component " + p + " at the end", c[p], Math.max(0, x.eventCount(p)));
        }
        return states.toString();
    }

    private static void pathsLeadFromInitialToFinal(Check check) {
        check.due("busy", walk(check, Scene.busy()), "222222");
        check.due("busy, by sum", walk(check, Scene.busyBySum()), "222222");
        check.due("all sent", walk(check, Scene.allSent()), "2".repeat(17));
        check.due("no step", walk(check, Scene.withEmptyPath()), "2");
    }

    private static void pathsHaveNSteps(Check check) {
        for (int procs = 1; procs <= 4; procs++) {
            CutLatticeDetect x = new CutLatticeDetect(procs, 6);
            x.setBounds(procs - 1, 1, 0);
            for (int n = 0; n <= 6 * procs; n++) {
                x.definitely();
                check.due("steps after " + n + " events", x.pathLength(), n);
                check.due("the last step", x.pathStep(n - 1) >= 0, n > 0);
                check.due("none after it", x.pathStep(n), -1);
                x.local(n % procs, n);
            }
        }
    }

    private static void pathsAreConsistent(Check check) {
        for (int first = 0; first < 4; first++) {
            CutLatticeDetect x = new CutLatticeDetect(4, 6);
            int second = (first + 1) % 4;
            x.send(first, 1);
            x.receive(second, 0, 1);
            x.send(second, 1);
            x.receive(first, 1, 1);
            x.setPredicate(GE, 100);
            check.due("no cut satisfies", x.definitely(), false);
            check.duePath("one way only", x, first, second, second, first);
        }
        CutLatticeDetect x = Scene.crossing();
        x.setBounds(0, 10, 10);
        x.setBounds(1, 100, 100);
        check.due("around (1, 1) there are inconsistent cuts alone", x.definitely(), true);
    }

    private static void pathsAvoidThePredicate(Check check) {
        for (int caught = 0; caught <= 3; caught++) {
            CutLatticeDetect x = new CutLatticeDetect(1, 3);
            for (int k = 1; k <= 3; k++) {
                x.local(0, k);
            }
            x.setBounds(0, caught, caught);
            check.due("cut " + caught + " of 0..3 satisfies", x.definitely(), true);
            check.dueNoPath("then", x);
            x.setBounds(0, 4, 4);
            check.due("none of them satisfies", x.definitely(), false);
            check.duePath("then", x, 0, 0, 0);
        }
    }

    private static void firstDifferenceDecides(Check check) {
        CutLatticeDetect x = new CutLatticeDetect(3, 6);
        for (int i = 0; i < 6; i++) {
            x.local(i % 3, 0);
        }
        x.setBounds(0, 1, 0);
        x.definitely();
        check.duePath("all paths avoid", x, 0, 0, 1, 1, 2, 2);
        CutLatticeDetect y = new CutLatticeDetect(3, 6);
        y.local(0, 0);
        y.local(0, 5);
        y.local(0, 0);
        y.local(1, 0);
        y.local(2, -5);
        // x_0 may be 5 only after 2 has moved: 0, 1, 2, .. is less than 0, 2, .., and both are less than 1, ..
        y.setPredicate(GE, 5);
        check.due("definitely()", y.definitely(), false);
        check.duePath("0, 1, 2 before 0, 2", y, 0, 1, 2, 0, 0);
    }

    private static void noneAtFirst(Check check) {
        for (int procs = 1; procs <= 4; procs++) {
            CutLatticeDetect x = new CutLatticeDetect(procs, 6);
            check.dueNoWitness("of " + procs, x);
            check.dueNoPath("of " + procs, x);
        }
    }

    private static Map<String, Function<CutLatticeDetect, Object>> successes() {
        Map<String, Function<CutLatticeDetect, Object>> calls = new LinkedHashMap<>();
        calls.put("setInitial(2, 0)", x -> x.setInitial(2, 0));
        calls.put("setInitial(2, 8)", x -> x.setInitial(2, 8));
        calls.put("setBounds(0, 1, 1)", x -> x.setBounds(0, 1, 1));
        calls.put("setBounds(2, MIN, MAX)", x -> x.setBounds(2, Scene.MIN, Scene.MAX));
        calls.put("setPredicate(CONJ, 0)", x -> x.setPredicate(0, 0));
        calls.put("setPredicate(GE, 1)", x -> x.setPredicate(GE, 1));
        calls.put("setPredicate(LE, 1)", x -> x.setPredicate(LE, 1));
        calls.put("local(2, 0)", x -> x.local(2, 0) == 1);
        calls.put("send(2, 0)", x -> x.send(2, 0) >= 0);
        return calls;
    }

    private static void successForgetsBoth(Check check) {
        List<Supplier<CutLatticeDetect>> scenes = List.of(Scene::withResults, Scene::withEmptyPath,
                Scene::withInitialWitness);
        for (Supplier<CutLatticeDetect> scene : scenes) {
            successes().forEach((name, call) -> dueForgotten(check, scene.get(), name, call));
        }
        dueForgotten(check, Scene.withResults(), "receive(2, 0, 0)", x -> x.receive(2, 0, 0) == 1);
        dueForgotten(check, Scene.busy(), "receive(3, 1, 4)", x -> x.receive(3, 1, 4) == 1);
        dueForgotten(check, Scene.busyBySum(), "receive(1, 2, 6)", x -> x.receive(1, 2, 6) == 2);
        dueForgotten(check, Scene.busyBySum(), "setPredicate(GE, 12)", x -> x.setPredicate(GE, 12));
        dueForgotten(check, Scene.busyBySum(), "setBounds(0, 1, 2)", x -> x.setBounds(0, 1, 2));
    }

    private static void dueForgotten(Check check, CutLatticeDetect x, String name,
            Function<CutLatticeDetect, Object> call) {
        check.due(name + " is taken", call.apply(x), true);
        check.dueNoWitness("after " + name, x);
        check.dueNoPath("after " + name, x);
    }

    private static void refusedChangesNothing(Check check) {
        for (Supplier<CutLatticeDetect> scene : List.<Supplier<CutLatticeDetect>>of(Scene::busy, Scene::busyBySum,
                Scene::busyWithoutResults)) {
            refusals().forEach((name, call) -> Unchanged.dueByRefused(check, scene, name, call,
                    name.startsWith("set") ? (Object) false : (Object) (-1)));
        }
    }

    /** Every kind of refusal of every call, for the busy scenes. */
    private static Map<String, Function<CutLatticeDetect, Object>> refusals() {
        Map<String, Function<CutLatticeDetect, Object>> calls = new LinkedHashMap<>();
        for (int p : new int[] {-1, 4, Scene.MIN, Scene.MAX}) {
            calls.put("setInitial(" + p + ", 9)", x -> x.setInitial(p, 9));
            calls.put("setBounds(" + p + ", 9, -9)", x -> x.setBounds(p, 9, -9));
            calls.put("setPredicate(" + (p < 0 ? p : p - 1) + ", 9)", x -> x.setPredicate(p < 0 ? p : p - 1, 9));
            calls.put("local(" + p + ", 9)", x -> x.local(p, 9));
            calls.put("send(" + p + ", 9)", x -> x.send(p, 9));
            calls.put("receive(" + p + ", 1, 9)", x -> x.receive(p, 1, 9));
        }
        for (int p = 0; p < 3; p++) {
            int reported = p;
            calls.put("setInitial(" + p + ", 9) after an event", x -> x.setInitial(reported, 9));
        }
        calls.put("local(0, 9) when full", x -> x.local(0, 9));
        calls.put("send(0, 9) when full", x -> x.send(0, 9));
        calls.put("receive(0, 2, 9) when full", x -> x.receive(0, 2, 9));
        for (int msg : new int[] {Scene.MIN, -1, 3, 15, 16, 17, Scene.MAX}) {
            calls.put("receive(3, " + msg + ", 9)", x -> x.receive(3, msg, 9));
        }
        calls.put("receive(1, 0, 9) again", x -> x.receive(1, 0, 9));
        calls.put("receive(3, 0, 9) after another", x -> x.receive(3, 0, 9));
        calls.put("receive(2, 2, 9) of one's own", x -> x.receive(2, 2, 9));
        return calls;
    }

    private static void gettersChangeNothing(Check check) {
        for (Supplier<CutLatticeDetect> scene : SCENES) {
            Unchanged.dueByGetter(check, scene, "countConsistent()", x -> x.countConsistent());
            Unchanged.dueByGetter(check, scene, "countSatisfying()", x -> x.countSatisfying());
            Unchanged.dueByGetter(check, scene, "pathLength()", x -> x.pathLength());
            for (int i : new int[] {Scene.MIN, -1, 0, 1, 2, 3, 4, 7, Scene.MAX}) {
                Unchanged.dueByGetter(check, scene, "eventCount(" + i + ")", x -> x.eventCount(i));
                Unchanged.dueByGetter(check, scene, "stamp(0, " + i + ", 0)", x -> x.stamp(0, i, 0));
                Unchanged.dueByGetter(check, scene, "cutState(" + i + ", 0, 0, 0)", x -> x.cutState(i, 0, 0, 0));
                Unchanged.dueByGetter(check, scene, "witness(" + i + ")", x -> x.witness(i));
                Unchanged.dueByGetter(check, scene, "pathStep(" + i + ")", x -> x.pathStep(i));
            }
        }
        check.dueWitness("of the busy scene", Scene.busy(), 1, 0, 0, 0);
        check.duePath("of the busy scene", Scene.busy(), 2, 0, 0, 0, 1);
    }
}
