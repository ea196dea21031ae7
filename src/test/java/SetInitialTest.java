/** Promise 2: setInitial. */
public final class SetInitialTest {
    private static final Check check = new Check("SetInitialTest");

    public static void main(String[] args) {
        setsTheInitialValueAlone();
        refusesUnknownProcesses();
        refusesAfterAnEvent();
        forgetsResults();
        check.end();
    }

    private static void setsTheInitialValueAlone() {
        int[] values = {5, 0, -7, Integer.MIN_VALUE, Integer.MAX_VALUE};
        for (int p = 0; p < 4; p++) {
            CutLatticeDetect x = new CutLatticeDetect(4, 6);
            for (int value : values) {
                check.due("setInitial(" + p + ", " + value + ")", x.setInitial(p, value), true);
                for (int q = 0; q < 4; q++) {
                    int is = q == p ? value : 0;
                    x.setBounds(q, is, is);
                }
                check.due("the initial cut then", x.cutState(0, 0, 0, 0), CutLatticeDetect.CUT_TRUE);
                check.due("eventCount(p) then", x.eventCount(p), 0);
            }
        }
        CutLatticeDetect x = new CutLatticeDetect(2, 6);
        x.setInitial(0, 3);
        x.setBounds(0, 3, 3);
        x.local(0, 4);
        check.due("index 0 keeps the initial value", x.cutState(0, 0, 0, 0), CutLatticeDetect.CUT_TRUE);
        check.due("index 1 has the event's value", x.cutState(1, 0, 0, 0), CutLatticeDetect.CUT_FALSE);
    }

    private static void refusesUnknownProcesses() {
        for (int p : Scene.outside(3)) {
            CutLatticeDetect x = Scene.withResults();
            String before = Scene.seen(x);
            check.due("setInitial(" + p + ", 1) of 3", x.setInitial(p, 1), false);
            check.due("all that is seen then", Scene.seen(x), before);
        }
        for (int p : Scene.outside(4)) {
            check.due("setInitial(" + p + ", 1) of 4", new CutLatticeDetect(4, 6).setInitial(p, 1), false);
        }
    }

    private static void refusesAfterAnEvent() {
        CutLatticeDetect x = Scene.withResults();
        String before = Scene.seen(x);
        check.due("setInitial after a send", x.setInitial(0, 1), false);
        check.due("setInitial after a local event", x.setInitial(1, 1), false);
        check.due("all that is seen then", Scene.seen(x), before);
        x.receive(2, 0, 0);
        check.due("setInitial after a receive", x.setInitial(2, 1), false);
        x.local(0, 1);
        check.due("setInitial after two events", x.setInitial(0, 1), false);
    }

    private static void forgetsResults() {
        CutLatticeDetect x = Scene.withResults();
        check.dueWitness("before", x, 1, 0, 0);
        check.duePath("before", x, 1, 0);
        check.due("setInitial(2, 0), no new value", x.setInitial(2, 0), true);
        check.dueNoWitness("after setInitial", x);
        check.dueNoPath("after setInitial", x);
    }
}
