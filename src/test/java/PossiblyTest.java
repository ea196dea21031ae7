/** Promise 13: possibly and witness. */
public final class PossiblyTest {
    private static final Check check = new Check("PossiblyTest");

    public static void main(String[] args) {
        leastLevelComesFirst();
        thenLexicographicallyLeast();
        inconsistentCutsDoNotCount();
        falseLeavesNoWitness();
        edgesOfTheLattice();
        witnessStays();
        leavesThePathAlone();
        check.end();
    }

    private static void leastLevelComesFirst() {
        CutLatticeDetect x = new CutLatticeDetect(2, 6);
        x.local(0, 5);
        x.local(1, 1);
        x.local(1, 1);
        x.local(1, 5);
        x.setPredicate(CutLatticeDetect.MODE_SUM_GE, 5);
        // (0, 3) is lexicographically less than (1, 0) but of a higher level.
        check.due("possibly()", x.possibly(), true);
        check.dueWitness("least level", x, 1, 0);
    }

    private static void thenLexicographicallyLeast() {
        for (int procs = 2; procs <= 4; procs++) {
            CutLatticeDetect x = new CutLatticeDetect(procs, 6);
            for (int p = 0; p < procs; p++) {
                for (int k = 1; k <= 3; k++) {
                    x.local(p, k);
                }
            }
            int[] want = new int[procs];
            x.setPredicate(CutLatticeDetect.MODE_SUM_GE, 2);
            x.possibly();
            want[procs - 1] = 2;
            check.dueWitness("sum 2 of " + procs, x, want);
            x.setPredicate(CutLatticeDetect.MODE_SUM_GE, 5);
            x.possibly();
            want[procs - 1] = 3;
            want[procs - 2] = 2;
            check.dueWitness("sum 5 of " + procs, x, want);
        }
    }

    private static void inconsistentCutsDoNotCount() {
        CutLatticeDetect x = Scene.crossing();
        x.setBounds(0, 20, 20);
        check.due("possibly()", x.possibly(), true);
        check.dueWitness("(2, 0) is inconsistent", x, 2, 1);
        x.setBounds(1, 0, 0);
        check.due("possibly() where only (2, 0) would do", x.possibly(), false);
        check.dueNoWitness("then", x);
    }

    private static void falseLeavesNoWitness() {
        CutLatticeDetect x = new CutLatticeDetect(2, 6);
        x.local(0, 5);
        check.due("possibly() by default", x.possibly(), true);
        check.dueWitness("the initial cut", x, 0, 0);
        x.setBounds(0, 6, 9);
        check.due("possibly() of 6..9", x.possibly(), false);
        check.dueNoWitness("after a false one", x);
    }

    private static void edgesOfTheLattice() {
        CutLatticeDetect none = new CutLatticeDetect(4, 6);
        check.due("possibly() without events", none.possibly(), true);
        check.dueWitness("without events", none, 0, 0, 0, 0);
        CutLatticeDetect x = new CutLatticeDetect(4, 6);
        for (int p = 0; p < 4; p++) {
            for (int k = 1; k <= 6; k++) {
                x.local(p, k);
            }
            x.setBounds(p, 6, 6);
        }
        check.due("possibly() at the very end", x.possibly(), true);
        check.dueWitness("at the very end", x, 6, 6, 6, 6);
        CutLatticeDetect one = new CutLatticeDetect(1, 6);
        one.local(0, 3);
        one.setBounds(0, 3, 3);
        check.due("possibly() of one process", one.possibly(), true);
        check.dueWitness("of one process", one, 1);
    }

    private static void witnessStays() {
        CutLatticeDetect x = Scene.withResults();
        x.setInitial(0, 1);
        x.setBounds(3, 0, 0);
        x.setPredicate(3, 0);
        x.local(3, 0);
        x.send(-1, 0);
        x.receive(2, 5, 0);
        x.definitely();
        x.countSatisfying();
        x.cutState(0, 0, 0, 0);
        check.dueWitness("after refused calls and getters", x, 1, 0, 0);
        check.due("witness(MIN)", x.witness(Integer.MIN_VALUE), -1);
        check.due("witness(MAX)", x.witness(Integer.MAX_VALUE), -1);
        check.due("possibly() again", x.possibly(), true);
        check.dueWitness("after possibly again", x, 1, 0, 0);
    }

    private static void leavesThePathAlone() {
        CutLatticeDetect x = Scene.withResults();
        x.possibly();
        check.duePath("after possibly", x, 1, 0);
        CutLatticeDetect never = new CutLatticeDetect(2, 6);
        never.local(1, 1);
        never.setBounds(0, 1, 0);
        never.definitely();
        check.due("possibly()", never.possibly(), false);
        check.duePath("after a false possibly", never, 1);
        check.due("eventCount(1)", never.eventCount(1), 1);
    }
}
