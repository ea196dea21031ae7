/** Promise 1: construction and starting state. */
public final class ConstructionTest {
    private static final Check check = new Check("ConstructionTest");

    public static void main(String[] args) {
        int[] low = {Integer.MIN_VALUE, -2147483647, -100, -1, 0};
        int[] high = {7, 8, 100, 65537, 2147483646, Integer.MAX_VALUE};
        for (int wanted : low) {
            procsAre(wanted, 1);
            roomIs(wanted, 1);
        }
        for (int wanted : high) {
            procsAre(wanted, 4);
            roomIs(wanted, 6);
        }
        for (int wanted = 1; wanted <= 6; wanted++) {
            procsAre(wanted, wanted < 4 ? wanted : 4);
            roomIs(wanted, wanted);
        }
        for (int procs = 1; procs <= 4; procs++) {
            startsEmpty(procs);
            startsWithoutConditions(procs);
        }
        objectsShareNothing();
        check.end();
    }

    private static void procsAre(int wanted, int due) {
        CutLatticeDetect x = new CutLatticeDetect(wanted, 2);
        for (int p = -1; p <= 6; p++) {
            boolean exists = p >= 0 && p < due;
            check.due("procs " + wanted + ": eventCount(" + p + ")", x.eventCount(p), exists ? 0 : -1);
            check.due("procs " + wanted + ": local(" + p + ", 1)", x.local(p, 1), exists ? 1 : -1);
        }
    }

    private static void roomIs(int wanted, int due) {
        for (int procs = 1; procs <= 4; procs++) {
            CutLatticeDetect x = new CutLatticeDetect(procs, wanted);
            for (int k = 1; k <= 8; k++) {
                int p = procs - 1;
                check.due("maxEvents " + wanted + ": local no. " + k, x.local(p, k), k <= due ? k : -1);
            }
        }
    }

    private static void startsEmpty(int procs) {
        CutLatticeDetect x = new CutLatticeDetect(procs, 6);
        check.dueNoWitness("at the start", x);
        check.dueNoPath("at the start", x);
        check.due("cutState(0, 0, 0, 0)", x.cutState(0, 0, 0, 0), CutLatticeDetect.CUT_TRUE);
        check.due("countConsistent()", x.countConsistent(), 1);
        check.due("countSatisfying()", x.countSatisfying(), 1);
        for (int p = 0; p < procs; p++) {
            check.due("stamp(" + p + ", 1, 0)", x.stamp(p, 1, 0), -1);
            for (int msg = -1; msg <= 16; msg++) {
                check.due("receive before any send", x.receive(p, msg, 1), -1);
            }
        }
        check.due("the first send", x.send(procs - 1, 1), 0);
    }

    private static void startsWithoutConditions(int procs) {
        for (int p = 0; p < procs; p++) {
            CutLatticeDetect x = new CutLatticeDetect(procs, 6);
            // Every value passes the default bounds, and in no sum mode would all three of these pass.
            x.local(p, Integer.MIN_VALUE);
            x.local(p, Integer.MAX_VALUE);
            x.local(p, 0);
            check.due("countSatisfying() with default bounds", x.countSatisfying(), 4);
            x.setBounds(p, 0, 0);
            check.due("the initial value is 0", x.cutState(0, 0, 0, 0), CutLatticeDetect.CUT_TRUE);
            x.setBounds(p, 1, Integer.MAX_VALUE);
            check.due("the initial value is not above 0", x.cutState(0, 0, 0, 0), CutLatticeDetect.CUT_FALSE);
        }
    }

    private static void objectsShareNothing() {
        CutLatticeDetect other = Scene.withResults();
        String before = Scene.seen(other);
        CutLatticeDetect x = new CutLatticeDetect(4, 6);
        x.send(0, 9);
        x.setBounds(0, 3, 4);
        x.setPredicate(CutLatticeDetect.MODE_SUM_GE, 100);
        x.definitely();
        check.due("another object after calls on this one", Scene.seen(other), before);
    }
}
