/** Promise 8: eventCount. */
public final class EventCountTest {
    private static final Check check = new Check("EventCountTest");

    public static void main(String[] args) {
        countsEveryKind();
        answersForUnknownProcesses();
        changesNothing();
        check.end();
    }

    private static void countsEveryKind() {
        CutLatticeDetect x = new CutLatticeDetect(4, 6);
        x.local(0, 1);
        x.local(0, 1);
        x.send(1, 1);
        x.send(1, 1);
        x.send(1, 1);
        x.receive(2, 0, 1);
        int[] want = {2, 3, 1, 0};
        for (int p = 0; p < 4; p++) {
            check.due("eventCount(" + p + ")", x.eventCount(p), want[p]);
        }
        for (int k = 1; k <= 9; k++) {
            x.local(3, k);
            check.due("eventCount(3)", x.eventCount(3), k < 6 ? k : 6);
        }
    }

    private static void answersForUnknownProcesses() {
        int[] far = {-1, 4, 5, 100, Integer.MIN_VALUE, Integer.MAX_VALUE};
        for (int procs = 1; procs <= 4; procs++) {
            CutLatticeDetect x = new CutLatticeDetect(procs, 6);
            for (int p = 0; p < 4; p++) {
                check.due("eventCount(" + p + ") of " + procs, x.eventCount(p), p < procs ? 0 : -1);
            }
            for (int p : far) {
                check.due("eventCount(" + p + ") of " + procs, x.eventCount(p), -1);
            }
        }
    }

    private static void changesNothing() {
        CutLatticeDetect x = Scene.withResults();
        String before = Scene.seen(x);
        for (int p = -1; p <= 4; p++) {
            x.eventCount(p);
        }
        check.due("all that is seen then", Scene.seen(x), before);
        check.dueWitness("after eventCount", x, 1, 0, 0);
        check.duePath("after eventCount", x, 1, 0);
    }
}
