/** Promise 14: definitely. */
public final class DefinitelyTest {
    private static final Check check = new Check("DefinitelyTest");

    public static void main(String[] args) {
        withoutEvents();
        initialOrFinalSatisfies();
        everyPathIsCaught();
        leastPathIsRecorded();
        deadEndsAreLeftOut();
        pathsKeepToConsistentCuts();
        longestPath();
        leavesTheWitnessAlone();
        check.end();
    }

    private static void withoutEvents() {
        for (int procs = 1; procs <= 4; procs++) {
            CutLatticeDetect x = new CutLatticeDetect(procs, 6);
            check.due("definitely() where the only cut satisfies", x.definitely(), true);
            check.dueNoPath("then", x);
            x.setBounds(procs - 1, 1, 1);
            check.due("definitely() where it does not", x.definitely(), false);
            check.duePath("the empty path", x);
        }
    }

    private static void initialOrFinalSatisfies() {
        CutLatticeDetect x = new CutLatticeDetect(2, 6);
        x.local(0, 1);
        x.local(1, 1);
        x.setPredicate(CutLatticeDetect.MODE_SUM_LE, 0);
        check.due("the initial cut satisfies", x.definitely(), true);
        check.dueNoPath("then", x);
        x.setPredicate(CutLatticeDetect.MODE_SUM_GE, 2);
        check.due("the final cut satisfies", x.definitely(), true);
        check.dueNoPath("then", x);
        x.setPredicate(CutLatticeDetect.MODE_SUM_GE, 3);
        check.due("no cut satisfies", x.definitely(), false);
        check.duePath("then", x, 0, 1);
    }

    private static void everyPathIsCaught() {
        CutLatticeDetect x = new CutLatticeDetect(2, 6);
        x.local(0, 1);
        x.local(0, -1);
        x.local(1, 1);
        x.local(1, -1);
        // Every path takes its first step to a cut of level 1, whose sum is 1.
        x.setPredicate(CutLatticeDetect.MODE_SUM_GE, 1);
        check.due("all cuts of one level satisfy", x.definitely(), true);
        check.dueNoPath("then", x);
        x.setPredicate(CutLatticeDetect.MODE_SUM_GE, 2);
        check.due("only (1, 1) satisfies", x.definitely(), false);
        check.duePath("around (1, 1)", x, 0, 0, 1, 1);
        // The path recorded just now must give way to none.
        x.setPredicate(CutLatticeDetect.MODE_SUM_LE, -2);
        check.due("only the final cut satisfies", x.definitely(), true);
        check.dueNoPath("then", x);
    }

    private static void leastPathIsRecorded() {
        CutLatticeDetect x = new CutLatticeDetect(3, 6);
        x.local(2, 0);
        x.local(1, 0);
        x.local(0, 0);
        x.local(1, 0);
        x.setBounds(0, 1, 0);
        check.due("no cut satisfies", x.definitely(), false);
        check.duePath("the least of all", x, 0, 1, 1, 2);
        CutLatticeDetect y = Scene.withResults();
        check.due("definitely() again", y.definitely(), false);
        check.duePath("0 first would meet (1, 0)", y, 1, 0);
    }

    private static void deadEndsAreLeftOut() {
        CutLatticeDetect x = new CutLatticeDetect(2, 6);
        x.local(0, 1);
        x.local(0, 2);
        x.local(1, 1);
        x.local(1, -1);
        // (1, 0) does not satisfy, but both cuts after it, (2, 0) and (1, 1), do.
        x.setPredicate(CutLatticeDetect.MODE_SUM_GE, 2);
        check.due("definitely()", x.definitely(), false);
        check.duePath("all of 1 first", x, 1, 1, 0, 0);
        CutLatticeDetect y = new CutLatticeDetect(2, 6);
        y.local(0, 5);
        y.local(0, 9);
        y.local(1, 3);
        y.setPredicate(CutLatticeDetect.MODE_SUM_GE, 8);
        check.due("the final cut, 12", y.definitely(), true);
        CutLatticeDetect z = new CutLatticeDetect(2, 6);
        z.local(0, 5);
        z.local(0, 9);
        z.local(0, 0);
        z.local(1, -3);
        z.setPredicate(CutLatticeDetect.MODE_SUM_GE, 7);
        check.due("(2, 0) alone", z.definitely(), false);
        // One step of 0 is good, the second is not before 1 has moved.
        check.duePath("9 - 3 is below 7", z, 0, 1, 0, 0);
    }

    private static void pathsKeepToConsistentCuts() {
        CutLatticeDetect x = Scene.crossing();
        x.setPredicate(CutLatticeDetect.MODE_SUM_GE, 1000);
        check.due("no cut satisfies", x.definitely(), false);
        check.duePath("not through (2, 0)", x, 0, 1, 0, 1);
        x.setPredicate(CutLatticeDetect.MODE_CONJ, 0);
        x.setBounds(0, 10, 10);
        x.setBounds(1, 100, 100);
        // All consistent paths pass through (1, 1): the ways around it are inconsistent.
        check.due("only (1, 1) satisfies", x.definitely(), true);
        check.dueNoPath("then", x);
        CutLatticeDetect chain = new CutLatticeDetect(2, 6);
        chain.send(1, 0);
        chain.receive(0, 0, 0);
        chain.setBounds(0, 1, 1);
        check.due("a chain", chain.definitely(), false);
        check.duePath("1 must come before 0", chain, 1, 0);
    }

    private static void longestPath() {
        CutLatticeDetect x = new CutLatticeDetect(4, 6);
        int[] want = new int[24];
        for (int p = 0; p < 4; p++) {
            for (int k = 1; k <= 6; k++) {
                x.local(p, k);
                want[p * 6 + k - 1] = p;
            }
        }
        x.setBounds(3, 7, 7);
        check.due("24 steps", x.definitely(), false);
        check.duePath("of 24 steps", x, want);
    }

    private static void leavesTheWitnessAlone() {
        CutLatticeDetect x = Scene.withResults();
        x.definitely();
        check.dueWitness("after a false definitely", x, 1, 0, 0);
        CutLatticeDetect y = new CutLatticeDetect(2, 6);
        y.local(1, 4);
        y.setBounds(1, 4, 4);
        y.possibly();
        check.due("the final cut satisfies", y.definitely(), true);
        check.dueWitness("after a true definitely", y, 0, 1);
        check.due("eventCount(1)", y.eventCount(1), 1);
        CutLatticeDetect none = new CutLatticeDetect(2, 6);
        none.definitely();
        check.dueNoWitness("definitely makes no witness", none);
    }
}
