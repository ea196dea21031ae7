/** Promise 7: receive. */
public final class ReceiveTest {
    private static final Check check = new Check("ReceiveTest");

    public static void main(String[] args) {
        takesTheGreaterOfBoth();
        anyOtherProcessMayReceive();
        outOfOrderAndOnce();
        refusesUnknownProcesses();
        refusesUnknownMessages();
        refusesTheSender();
        refusesWhenFull();
        forgetsResults();
        check.end();
    }

    private static void takesTheGreaterOfBoth() {
        CutLatticeDetect x = new CutLatticeDetect(4, 6);
        x.send(0, 1);
        x.local(0, 1);
        x.send(0, 1);
        x.send(3, 1);
        x.receive(1, 1, 1);
        x.receive(2, 2, 1);
        x.send(2, 1);
        // Process 1 knows three events of 0; the older message of 0 must not lower that.
        check.due("receive(1, 0, 1)", x.receive(1, 0, 1), 2);
        dueStamp(x, 1, 2, 3, 2, 0, 0);
        check.due("receive(1, 3, 1)", x.receive(1, 3, 1), 3);
        dueStamp(x, 1, 3, 3, 3, 2, 1);
        check.due("local(1, 1)", x.local(1, 1), 4);
        dueStamp(x, 1, 4, 3, 4, 2, 1);
        dueStamp(x, 2, 2, 0, 0, 2, 1);
        dueStamp(x, 1, 1, 3, 1, 0, 0);
    }

    private static void dueStamp(CutLatticeDetect x, int p, int k, int... want) {
        for (int q = 0; q < want.length; q++) {
            check.due("stamp(" + p + ", " + k + ", " + q + ")", x.stamp(p, k, q), want[q]);
        }
    }

    private static void anyOtherProcessMayReceive() {
        for (int sender = 0; sender < 4; sender++) {
            for (int p = 0; p < 4; p++) {
                CutLatticeDetect x = new CutLatticeDetect(4, 6);
                x.send(sender, 5);
                check.due(p + " receives from " + sender, x.receive(p, 0, -9), p == sender ? -1 : 1);
                check.due("eventCount(p)", x.eventCount(p), 1);
                check.due("stamp(p, 1, sender)", x.stamp(p, 1, sender), 1);
                x.setBounds(p, -9, -9);
                check.due("the value is set", x.countSatisfying(), p == sender ? 0 : 1);
            }
        }
    }

    private static void outOfOrderAndOnce() {
        CutLatticeDetect x = new CutLatticeDetect(3, 6);
        x.send(0, 1);
        x.send(0, 1);
        x.send(0, 1);
        check.due("the last one first", x.receive(1, 2, 1), 1);
        check.due("not again", x.receive(1, 2, 1), -1);
        check.due("nor by another process", x.receive(2, 2, 1), -1);
        check.due("the others are still there", x.receive(2, 0, 1), 1);
        check.due("and the middle one", x.receive(1, 1, 1), 2);
        for (int msg = 0; msg < 3; msg++) {
            check.due("all are received", x.receive(2, msg, 1), -1);
        }
        check.due("eventCount(0)", x.eventCount(0), 3);
        check.due("eventCount(1)", x.eventCount(1), 2);
        check.due("eventCount(2)", x.eventCount(2), 1);
    }

    private static void dueRefused(CutLatticeDetect x, int p, int msg) {
        String before = Scene.seen(x);
        check.due("receive(" + p + ", " + msg + ", 9)", x.receive(p, msg, 9), -1);
        check.due("all that is seen then", Scene.seen(x), before);
    }

    private static void refusesUnknownProcesses() {
        for (int p : Scene.outside(3)) {
            CutLatticeDetect x = Scene.withResults();
            dueRefused(x, p, 0);
            check.due("message 0 is still there", x.receive(2, 0, 1), 1);
        }
        for (int p : Scene.outside(4)) {
            CutLatticeDetect x = new CutLatticeDetect(4, 6);
            x.send(0, 1);
            dueRefused(x, p, 0);
        }
    }

    private static void refusesUnknownMessages() {
        int[] unknown = {-1, 1, 2, 15, 16, 17, Integer.MIN_VALUE, Integer.MAX_VALUE};
        for (int msg : unknown) {
            dueRefused(Scene.withResults(), 2, msg);
        }
    }

    private static void refusesTheSender() {
        CutLatticeDetect x = Scene.withResults();
        dueRefused(x, 0, 0);
        check.due("message 0 is still there", x.receive(1, 0, 1), 2);
        x.possibly();
        x.definitely();
        dueRefused(x, 2, 0);
    }

    private static void refusesWhenFull() {
        CutLatticeDetect x = Scene.withResults();
        x.local(1, 1);
        x.local(1, 1);
        x.possibly();
        x.definitely();
        dueRefused(x, 1, 0);
        check.due("message 0 is still there", x.receive(2, 0, 1), 1);
    }

    private static void forgetsResults() {
        CutLatticeDetect x = Scene.withResults();
        check.due("receive(2, 0, 0)", x.receive(2, 0, 0), 1);
        check.dueNoWitness("after receive", x);
        check.dueNoPath("after receive", x);
    }
}
