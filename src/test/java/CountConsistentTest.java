/** Promise 11: countConsistent. */
public final class CountConsistentTest {
    private static final Check check = new Check("CountConsistentTest");

    public static void main(String[] args) {
        initialAndFinalMayCoincide();
        withoutMessagesAllCuts();
        withMessagesFewer();
        doesNotFollowThePredicate();
        changesNothing();
        check.end();
    }

    private static void initialAndFinalMayCoincide() {
        for (int procs = 1; procs <= 4; procs++) {
            check.due("no event", new CutLatticeDetect(procs, 6).countConsistent(), 1);
        }
    }

    private static void withoutMessagesAllCuts() {
        for (int procs = 1; procs <= 4; procs++) {
            CutLatticeDetect x = new CutLatticeDetect(procs, 6);
            int all = 1;
            for (int p = 0; p < procs; p++) {
                for (int k = 1; k <= 6; k++) {
                    x.local(p, 1);
                    check.due("local events alone", x.countConsistent(), all * (k + 1));
                }
                all *= 7;
            }
        }
    }

    private static void withMessagesFewer() {
        check.due("crossing messages", Scene.crossing().countConsistent(), 7);
        CutLatticeDetect x = new CutLatticeDetect(4, 6);
        // A ring: every event waits for the one before it, so the cuts form a single chain.
        x.send(0, 1);
        for (int m = 0; m < 11; m++) {
            x.receive((m + 1) % 4, m, 1);
            x.send((m + 1) % 4, 1);
        }
        int n = x.eventCount(0) + x.eventCount(1) + x.eventCount(2) + x.eventCount(3);
        check.due("events of the ring", n, 23);
        check.due("a single chain", x.countConsistent(), 24);
        CutLatticeDetect unread = new CutLatticeDetect(2, 6);
        unread.send(0, 1);
        unread.local(1, 1);
        check.due("a message nobody received", unread.countConsistent(), 4);
    }

    private static void doesNotFollowThePredicate() {
        CutLatticeDetect x = Scene.crossing();
        x.setBounds(0, 1, 0);
        check.due("with lo > hi", x.countConsistent(), 7);
        x.setPredicate(CutLatticeDetect.MODE_SUM_GE, 1000);
        check.due("with a sum out of reach", x.countConsistent(), 7);
        x.setPredicate(CutLatticeDetect.MODE_SUM_LE, 1000);
        check.due("with a sum always reached", x.countConsistent(), 7);
    }

    private static void changesNothing() {
        CutLatticeDetect x = Scene.withResults();
        check.due("countConsistent()", x.countConsistent(), 4);
        check.dueWitness("after countConsistent", x, 1, 0, 0);
        check.duePath("after countConsistent", x, 1, 0);
    }
}
