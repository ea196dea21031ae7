/** Promise 4: setPredicate, and the predicates of the sum modes. */
public final class SetPredicateTest {
    private static final Check check = new Check("SetPredicateTest");

    public static void main(String[] args) {
        sumsAreComparedWithTheThreshold();
        sumsDoNotWrapAround();
        refusesUnknownModes();
        forgetsResults();
        keepsTheBounds();
        check.end();
    }

    private static void sumsAreComparedWithTheThreshold() {
        CutLatticeDetect x = new CutLatticeDetect(4, 6);
        x.setInitial(0, 1);
        x.setInitial(1, 2);
        x.setInitial(2, 4);
        x.setInitial(3, -8);
        for (int t = -3; t <= 1; t++) {
            check.due("setPredicate(GE, " + t + ")", x.setPredicate(CutLatticeDetect.MODE_SUM_GE, t), true);
            check.due("-1 >= " + t, x.countSatisfying(), -1 >= t ? 1 : 0);
            check.due("setPredicate(LE, " + t + ")", x.setPredicate(CutLatticeDetect.MODE_SUM_LE, t), true);
            check.due("-1 <= " + t, x.countSatisfying(), -1 <= t ? 1 : 0);
            check.due("setPredicate(CONJ, " + t + ")", x.setPredicate(CutLatticeDetect.MODE_CONJ, t), true);
            check.due("the threshold has no part in CONJ", x.countSatisfying(), 1);
        }
    }

    private static int allAt(int procs, int value, int mode, int threshold) {
        CutLatticeDetect x = new CutLatticeDetect(procs, 6);
        for (int p = 0; p < procs; p++) {
            x.setInitial(p, value);
        }
        x.setPredicate(mode, threshold);
        return x.cutState(0, 0, 0, 0);
    }

    private static void sumsDoNotWrapAround() {
        int ge = CutLatticeDetect.MODE_SUM_GE;
        int le = CutLatticeDetect.MODE_SUM_LE;
        int max = Integer.MAX_VALUE;
        int min = Integer.MIN_VALUE;
        for (int procs = 2; procs <= 4; procs++) {
            check.due(procs + " times MAX >= MAX", allAt(procs, max, ge, max), CutLatticeDetect.CUT_TRUE);
            check.due(procs + " times MAX <= MAX", allAt(procs, max, le, max), CutLatticeDetect.CUT_FALSE);
            check.due(procs + " times MIN >= MIN", allAt(procs, min, ge, min), CutLatticeDetect.CUT_FALSE);
            check.due(procs + " times MIN <= MIN", allAt(procs, min, le, min), CutLatticeDetect.CUT_TRUE);
        }
        check.due("MAX >= MAX", allAt(1, max, ge, max), CutLatticeDetect.CUT_TRUE);
        check.due("MAX <= MAX", allAt(1, max, le, max), CutLatticeDetect.CUT_TRUE);
        check.due("MIN >= MIN", allAt(1, min, ge, min), CutLatticeDetect.CUT_TRUE);
        check.due("MIN <= MIN", allAt(1, min, le, min), CutLatticeDetect.CUT_TRUE);
        check.due("MIN >= MAX", allAt(1, min, ge, max), CutLatticeDetect.CUT_FALSE);
        check.due("MAX <= MIN", allAt(1, max, le, min), CutLatticeDetect.CUT_FALSE);
    }

    private static void refusesUnknownModes() {
        int[] modes = {-1, 3, 4, 256, Integer.MIN_VALUE, Integer.MAX_VALUE};
        for (int mode : modes) {
            CutLatticeDetect x = Scene.withResults();
            String before = Scene.seen(x);
            check.due("setPredicate(" + mode + ", 7)", x.setPredicate(mode, 7), false);
            check.due("all that is seen then", Scene.seen(x), before);
            x.setPredicate(CutLatticeDetect.MODE_SUM_GE, 2);
            check.due("countSatisfying() at 2", x.countSatisfying(), 1);
            check.due("setPredicate(" + mode + ", 1)", x.setPredicate(mode, 1), false);
            check.due("the threshold is still 2", x.countSatisfying(), 1);
        }
    }

    private static void forgetsResults() {
        CutLatticeDetect x = Scene.withResults();
        check.due("setPredicate(CONJ, 0), nothing new", x.setPredicate(CutLatticeDetect.MODE_CONJ, 0), true);
        check.dueNoWitness("after setPredicate", x);
        check.dueNoPath("after setPredicate", x);
    }

    private static void keepsTheBounds() {
        CutLatticeDetect x = Scene.withResults();
        int before = x.countSatisfying();
        for (int mode = 0; mode <= 2; mode++) {
            x.setPredicate(mode, Integer.MAX_VALUE);
        }
        x.setPredicate(CutLatticeDetect.MODE_CONJ, Integer.MIN_VALUE);
        check.due("countSatisfying() after all modes", x.countSatisfying(), before);
        check.due("the cut (1, 0, 0)", x.cutState(1, 0, 0, 0), CutLatticeDetect.CUT_TRUE);
    }
}
