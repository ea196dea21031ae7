/** Promise 12: countSatisfying. */
public final class CountSatisfyingTest {
    private static final Check check = new Check("CountSatisfyingTest");

    public static void main(String[] args) {
        countsByBounds();
        countsBySum();
        isNeverLargerThanAll();
        changesNothing();
        check.end();
    }

    private static void countsByBounds() {
        CutLatticeDetect x = Scene.crossing();
        check.due("by default all", x.countSatisfying(), 7);
        x.setBounds(0, 10, 20);
        check.due("process 0 has begun", x.countSatisfying(), 5);
        x.setBounds(1, 200, 200);
        check.due("and process 1 is at its end", x.countSatisfying(), 2);
        x.setBounds(0, 0, 0);
        check.due("only (0, 2), which is inconsistent", x.countSatisfying(), 0);
    }

    private static void countsBySum() {
        CutLatticeDetect x = Scene.crossing();
        // The sums of the consistent cuts: 0, 10, 100, 110, 120, 210, 220.
        int[] sums = {0, 10, 100, 110, 120, 210, 220};
        for (int t = -10; t <= 230; t += 5) {
            int least = 0;
            int most = 0;
            for (int sum : sums) {
                least += sum >= t ? 1 : 0;
                most += sum <= t ? 1 : 0;
            }
            x.setPredicate(CutLatticeDetect.MODE_SUM_GE, t);
            check.due("sums >= " + t, x.countSatisfying(), least);
            x.setPredicate(CutLatticeDetect.MODE_SUM_LE, t);
            check.due("sums <= " + t, x.countSatisfying(), most);
        }
    }

    private static void isNeverLargerThanAll() {
        CutLatticeDetect x = new CutLatticeDetect(4, 6);
        for (int p = 0; p < 4; p++) {
            for (int k = 1; k <= 6; k++) {
                x.local(p, k);
            }
        }
        check.due("countSatisfying() of all", x.countSatisfying(), 2401);
        for (int p = 0; p < 4; p++) {
            x.setBounds(p, 1, 6);
        }
        check.due("countSatisfying() without the zeros", x.countSatisfying(), 1296);
        check.due("countConsistent()", x.countConsistent(), 2401);
    }

    private static void changesNothing() {
        CutLatticeDetect x = Scene.withResults();
        check.due("countSatisfying()", x.countSatisfying(), 1);
        check.dueWitness("after countSatisfying", x, 1, 0, 0);
        check.duePath("after countSatisfying", x, 1, 0);
    }
}
