/** Promise 6: send. */
public final class SendTest {
    private static final Check check = new Check("SendTest");

    public static void main(String[] args) {
        numbersMessagesInOrder();
        addsAnEvent();
        carriesItsTimestamp();
        refusesUnknownProcesses();
        refusesWhenFull();
        refusesTheSeventeenth();
        forgetsResults();
        check.end();
    }

    private static void numbersMessagesInOrder() {
        CutLatticeDetect x = new CutLatticeDetect(4, 6);
        for (int m = 0; m < 16; m++) {
            check.due("send no. " + m, x.send(m % 4, m), m);
            check.due("eventCount then", x.eventCount(m % 4), m / 4 + 1);
        }
    }

    private static void addsAnEvent() {
        CutLatticeDetect x = new CutLatticeDetect(3, 6);
        x.local(2, 1);
        check.due("send(2, MIN)", x.send(2, Integer.MIN_VALUE), 0);
        check.due("send(2, MAX)", x.send(2, Integer.MAX_VALUE), 1);
        check.due("eventCount(2)", x.eventCount(2), 3);
        check.due("eventCount(0)", x.eventCount(0), 0);
        check.due("stamp(2, 3, 2)", x.stamp(2, 3, 2), 3);
        check.due("stamp(2, 3, 0)", x.stamp(2, 3, 0), 0);
        x.setBounds(2, Integer.MIN_VALUE, Integer.MIN_VALUE);
        check.due("the first send's value", x.cutState(0, 0, 2, 0), CutLatticeDetect.CUT_TRUE);
        x.setBounds(2, Integer.MAX_VALUE, Integer.MAX_VALUE);
        check.due("the second send's value", x.cutState(0, 0, 3, 0), CutLatticeDetect.CUT_TRUE);
    }

    private static void carriesItsTimestamp() {
        CutLatticeDetect x = new CutLatticeDetect(3, 6);
        x.send(0, 1);
        x.receive(1, 0, 1);
        x.send(1, 1);
        // What the sender does later has no part in the message's timestamp.
        x.local(1, 1);
        x.local(0, 1);
        x.local(2, 1);
        check.due("receive(2, 1, 1)", x.receive(2, 1, 1), 2);
        check.due("stamp(2, 2, 0), through process 1", x.stamp(2, 2, 0), 1);
        check.due("stamp(2, 2, 1)", x.stamp(2, 2, 1), 2);
        check.due("stamp(2, 2, 2)", x.stamp(2, 2, 2), 2);
    }

    private static void refusesUnknownProcesses() {
        for (int p : Scene.outside(3)) {
            CutLatticeDetect x = Scene.withResults();
            String before = Scene.seen(x);
            check.due("send(" + p + ", 1) of 3", x.send(p, 1), -1);
            check.due("all that is seen then", Scene.seen(x), before);
            check.due("no message was made", x.send(2, 1), 1);
        }
        for (int p : Scene.outside(4)) {
            check.due("send(" + p + ", 1) of 4", new CutLatticeDetect(4, 6).send(p, 1), -1);
        }
    }

    private static void refusesWhenFull() {
        CutLatticeDetect x = Scene.withResults();
        x.send(0, 1);
        x.local(0, 1);
        x.possibly();
        x.definitely();
        String before = Scene.seen(x);
        check.due("send of a full process", x.send(0, 9), -1);
        check.due("all that is seen then", Scene.seen(x), before);
        check.due("no message was made", x.receive(2, 2, 1), -1);
        check.due("the next message's id", x.send(1, 1), 2);
    }

    private static void refusesTheSeventeenth() {
        CutLatticeDetect x = new CutLatticeDetect(4, 6);
        for (int m = 0; m < 16; m++) {
            x.send(m / 5, m);
        }
        x.setBounds(0, 4, 4);
        x.setBounds(1, 0, 0);
        x.possibly();
        x.definitely();
        check.due("there is a witness", x.witness(0), 5);
        check.due("there is a path", x.pathLength(), 16);
        String before = Scene.seen(x);
        for (int p = 0; p < 4; p++) {
            check.due("send no. 17 of process " + p, x.send(p, 1), -1);
        }
        check.due("all that is seen then", Scene.seen(x), before);
        check.due("local is still taken", x.local(3, 1), 2);
        for (int m = 0; m < 5; m++) {
            x.receive(3, m, 1);
        }
        check.due("eventCount(3)", x.eventCount(3), 6);
        check.due("receiving makes no place for a send", x.send(0, 1), -1);
        check.due("eventCount(0)", x.eventCount(0), 5);
        check.due("message 16 does not exist", x.receive(0, 16, 1), -1);
        check.due("message 15 does", x.receive(0, 15, 1), 6);
    }

    private static void forgetsResults() {
        CutLatticeDetect x = Scene.withResults();
        check.due("send(2, 0)", x.send(2, 0), 1);
        check.dueNoWitness("after send", x);
        check.dueNoPath("after send", x);
    }
}
