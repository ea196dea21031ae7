/** Promise 10: cutState. */
public final class CutStateTest {
    private static final Check check = new Check("CutStateTest");
    private static final int INVALID = CutLatticeDetect.CUT_INVALID;
    private static final int INCONSISTENT = CutLatticeDetect.CUT_INCONSISTENT;
    private static final int FALSE = CutLatticeDetect.CUT_FALSE;
    private static final int TRUE = CutLatticeDetect.CUT_TRUE;

    public static void main(String[] args) {
        tellsAllFourClasses();
        wrongArgumentsAreInvalid();
        unwatchedProcessesMustBeZero();
        inconsistentComesBeforeThePredicate();
        followsTheCurrentPredicate();
        consistencyGoesThroughOthers();
        changesNothing();
        check.end();
    }

    private static void tellsAllFourClasses() {
        CutLatticeDetect x = Scene.crossing();
        x.setBounds(0, 10, 10);
        int[][] want = {
            {FALSE, FALSE, INCONSISTENT, INVALID},
            {TRUE, TRUE, TRUE, INVALID},
            {INCONSISTENT, FALSE, FALSE, INVALID},
            {INVALID, INVALID, INVALID, INVALID}};
        for (int a = 0; a < 4; a++) {
            for (int b = 0; b < 4; b++) {
                check.due("cutState(" + a + ", " + b + ", 0, 0)", x.cutState(a, b, 0, 0), want[a][b]);
            }
        }
    }

    private static void wrongArgumentsAreInvalid() {
        int[] wrong = {-1, -2, -8, 7, 8, 9, 16, 64, 512, 4096, Integer.MIN_VALUE, Integer.MAX_VALUE, -512, -64};
        CutLatticeDetect x = new CutLatticeDetect(4, 6);
        for (int p = 0; p < 4; p++) {
            for (int k = 1; k <= 6; k++) {
                x.local(p, k);
            }
        }
        check.due("the final cut", x.cutState(6, 6, 6, 6), TRUE);
        for (int c : wrong) {
            for (int other = 0; other <= 6; other += 3) {
                check.due("cutState with c0 = " + c, x.cutState(c, other, other, other), INVALID);
                check.due("cutState with c1 = " + c, x.cutState(other, c, other, other), INVALID);
                check.due("cutState with c2 = " + c, x.cutState(other, other, c, other), INVALID);
                check.due("cutState with c3 = " + c, x.cutState(other, other, other, c), INVALID);
            }
        }
    }

    private static void unwatchedProcessesMustBeZero() {
        int[] notZero = {-1, 1, 6, 7, 8, Integer.MIN_VALUE, Integer.MAX_VALUE};
        for (int procs = 1; procs <= 4; procs++) {
            CutLatticeDetect x = new CutLatticeDetect(procs, 6);
            for (int p = 0; p < procs; p++) {
                x.local(p, 1);
            }
            int[] c = new int[4];
            for (int p = 0; p < 4; p++) {
                c[p] = 1;
                check.due("one event of " + p + " of " + procs, x.cutState(c[0], c[1], c[2], c[3]),
                        p < procs ? TRUE : INVALID);
                for (int value : notZero) {
                    c[p] = value;
                    check.due(value + " for " + p + " of " + procs, x.cutState(c[0], c[1], c[2], c[3]),
                            p < procs && value == 1 ? TRUE : INVALID);
                }
                c[p] = 0;
            }
        }
    }

    private static void inconsistentComesBeforeThePredicate() {
        CutLatticeDetect x = Scene.crossing();
        check.due("inconsistent where the predicate holds", x.cutState(2, 0, 0, 0), INCONSISTENT);
        x.setBounds(0, 1, 0);
        check.due("inconsistent where it does not", x.cutState(2, 0, 0, 0), INCONSISTENT);
        check.due("invalid before inconsistent", x.cutState(2, 0, 1, 0), INVALID);
        check.due("invalid before inconsistent", x.cutState(2, -1, 0, 0), INVALID);
    }

    private static void followsTheCurrentPredicate() {
        CutLatticeDetect x = new CutLatticeDetect(2, 6);
        x.setInitial(0, 5);
        x.local(1, 7);
        check.due("by default", x.cutState(0, 1, 0, 0), TRUE);
        x.setPredicate(CutLatticeDetect.MODE_SUM_GE, 13);
        check.due("12 >= 13", x.cutState(0, 1, 0, 0), FALSE);
        x.setPredicate(CutLatticeDetect.MODE_SUM_GE, 12);
        check.due("12 >= 12", x.cutState(0, 1, 0, 0), TRUE);
        check.due("5 >= 12", x.cutState(0, 0, 0, 0), FALSE);
        x.setPredicate(CutLatticeDetect.MODE_SUM_LE, 11);
        check.due("12 <= 11", x.cutState(0, 1, 0, 0), FALSE);
        check.due("5 <= 11", x.cutState(0, 0, 0, 0), TRUE);
        x.setInitial(0, 4);
        check.due("11 <= 11", x.cutState(0, 1, 0, 0), TRUE);
    }

    private static void consistencyGoesThroughOthers() {
        CutLatticeDetect x = new CutLatticeDetect(4, 6);
        x.send(0, 1);
        x.receive(1, 0, 1);
        x.send(1, 1);
        x.receive(3, 1, 1);
        check.due("3 knows 0 through 1", x.cutState(0, 2, 0, 1), INCONSISTENT);
        check.due("3 without the receive of 1", x.cutState(1, 1, 0, 1), INCONSISTENT);
        check.due("the whole chain", x.cutState(1, 2, 0, 1), TRUE);
        check.due("messages on their way are no fault", x.cutState(1, 0, 0, 0), TRUE);
    }

    private static void changesNothing() {
        CutLatticeDetect x = Scene.withResults();
        x.cutState(0, 0, 0, 0);
        x.cutState(1, 1, 0, 0);
        x.cutState(9, -1, 3, 3);
        check.dueWitness("after cutState", x, 1, 0, 0);
        check.duePath("after cutState", x, 1, 0);
    }
}
