/** Promise 3: setBounds. */
public final class SetBoundsTest {
    private static final Check check = new Check("SetBoundsTest");

    public static void main(String[] args) {
        boundsAreInclusive();
        everyProcessHasItsOwn();
        emptyRangeHoldsNowhere();
        keptThroughSumModes();
        refusesUnknownProcesses();
        forgetsResults();
        check.end();
    }

    private static int initialWith(int value, int lo, int hi) {
        CutLatticeDetect x = new CutLatticeDetect(1, 1);
        x.setInitial(0, value);
        check.due("setBounds(0, " + lo + ", " + hi + ")", x.setBounds(0, lo, hi), true);
        return x.cutState(0, 0, 0, 0);
    }

    private static void boundsAreInclusive() {
        int[][] ranges = {{-3, 4}, {5, 5}, {0, 0}, {Integer.MIN_VALUE, Integer.MIN_VALUE + 1},
                {Integer.MAX_VALUE - 1, Integer.MAX_VALUE}, {Integer.MIN_VALUE, Integer.MAX_VALUE}};
        int[] values = {Integer.MIN_VALUE, Integer.MIN_VALUE + 1, Integer.MIN_VALUE + 2, -4, -3, 0, 1, 4, 5, 6,
                Integer.MAX_VALUE - 2, Integer.MAX_VALUE - 1, Integer.MAX_VALUE};
        for (int[] range : ranges) {
            for (int value : values) {
                boolean inside = range[0] <= value && value <= range[1];
                check.due(value + " in " + range[0] + ".." + range[1], initialWith(value, range[0], range[1]),
                        inside ? CutLatticeDetect.CUT_TRUE : CutLatticeDetect.CUT_FALSE);
            }
        }
    }

    private static void everyProcessHasItsOwn() {
        for (int procs = 1; procs <= 4; procs++) {
            for (int p = 0; p < procs; p++) {
                CutLatticeDetect x = new CutLatticeDetect(procs, 6);
                x.setBounds(p, 1, 1);
                check.due("process " + p + " of " + procs + " is out", x.countSatisfying(), 0);
                x.local(p, 1);
                check.due("process " + p + " of " + procs + " is in", x.countSatisfying(), 1);
            }
        }
    }

    private static void emptyRangeHoldsNowhere() {
        CutLatticeDetect x = Scene.crossing();
        check.due("setBounds(1, 1, 0)", x.setBounds(1, 1, 0), true);
        check.due("countSatisfying() with lo > hi", x.countSatisfying(), 0);
        check.due("setBounds(1, MAX, MIN)", x.setBounds(1, Integer.MAX_VALUE, Integer.MIN_VALUE), true);
        check.due("countSatisfying() with MAX..MIN", x.countSatisfying(), 0);
        check.due("possibly()", x.possibly(), false);
    }

    private static void keptThroughSumModes() {
        CutLatticeDetect x = Scene.crossing();
        x.setBounds(0, 10, 10);
        check.due("countSatisfying() by bounds", x.countSatisfying(), 3);
        x.setPredicate(CutLatticeDetect.MODE_SUM_GE, -5);
        check.due("bounds are ignored by a sum mode", x.countSatisfying(), 7);
        check.due("setBounds in a sum mode", x.setBounds(1, 100, 100), true);
        check.due("and these too", x.countSatisfying(), 7);
        x.setPredicate(CutLatticeDetect.MODE_SUM_LE, 1000);
        check.due("and by the other sum mode", x.countSatisfying(), 7);
        x.setPredicate(CutLatticeDetect.MODE_CONJ, 0);
        check.due("both take effect again", x.countSatisfying(), 1);
        check.due("in the cut (1, 1)", x.cutState(1, 1, 0, 0), CutLatticeDetect.CUT_TRUE);
    }

    private static void refusesUnknownProcesses() {
        for (int p : Scene.outside(3)) {
            CutLatticeDetect x = Scene.withResults();
            String before = Scene.seen(x);
            check.due("setBounds(" + p + ", 5, 6) of 3", x.setBounds(p, 5, 6), false);
            check.due("all that is seen then", Scene.seen(x), before);
        }
        for (int p : Scene.outside(4)) {
            check.due("setBounds(" + p + ", 5, 6) of 4", new CutLatticeDetect(4, 6).setBounds(p, 5, 6), false);
        }
    }

    private static void forgetsResults() {
        CutLatticeDetect x = Scene.withResults();
        check.due("setBounds, no new bounds", x.setBounds(0, 1, 1), true);
        check.dueNoWitness("after setBounds", x);
        check.dueNoPath("after setBounds", x);
        check.due("eventCount(0) after setBounds", x.eventCount(0), 1);
        check.due("setBounds of a process with its room used", full().setBounds(0, 1, 2), true);
    }

    private static CutLatticeDetect full() {
        CutLatticeDetect x = new CutLatticeDetect(1, 1);
        x.local(0, 1);
        return x;
    }
}
