/** Promise 5: local. */
public final class LocalTest {
    private static final Check check = new Check("LocalTest");

    public static void main(String[] args) {
        addsEventsUpToTheRoom();
        setsTheValue();
        changesNoOtherProcess();
        refusesUnknownProcesses();
        refusesWhenFull();
        forgetsResults();
        check.end();
    }

    private static void addsEventsUpToTheRoom() {
        for (int room = 1; room <= 6; room++) {
            for (int p = 0; p < 4; p++) {
                CutLatticeDetect x = new CutLatticeDetect(4, room);
                for (int k = 1; k <= room; k++) {
                    check.due("local no. " + k, x.local(p, -k), k);
                    check.due("eventCount then", x.eventCount(p), k);
                    for (int q = 0; q < 4; q++) {
                        check.due("stamp(" + p + ", " + k + ", " + q + ")", x.stamp(p, k, q), q == p ? k : 0);
                    }
                }
                check.due("local beyond the room", x.local(p, 1), -1);
            }
        }
    }

    private static void setsTheValue() {
        int[] values = {3, -3, 0, Integer.MIN_VALUE, Integer.MAX_VALUE, 1};
        CutLatticeDetect x = new CutLatticeDetect(2, 6);
        for (int k = 1; k <= 6; k++) {
            x.local(1, values[k - 1]);
        }
        for (int k = 1; k <= 6; k++) {
            x.setBounds(1, values[k - 1], values[k - 1]);
            check.due("event " + k + " has its value", x.cutState(0, k, 0, 0), CutLatticeDetect.CUT_TRUE);
        }
    }

    private static void changesNoOtherProcess() {
        CutLatticeDetect x = Scene.crossing();
        check.due("local(0, 1)", x.local(0, 1), 3);
        check.due("eventCount(1)", x.eventCount(1), 2);
        check.due("a local event keeps what its process knew", x.stamp(0, 3, 1), 1);
        check.due("its own component", x.stamp(0, 3, 0), 3);
        check.due("an earlier timestamp", x.stamp(0, 2, 0), 2);
        check.due("another process's timestamp", x.stamp(1, 2, 0), 1);
        check.due("no message was made", x.receive(1, 2, 1), -1);
        check.due("the next message's id", x.send(0, 1), 2);
    }

    private static void refusesUnknownProcesses() {
        for (int p : Scene.outside(3)) {
            CutLatticeDetect x = Scene.withResults();
            String before = Scene.seen(x);
            check.due("local(" + p + ", 1) of 3", x.local(p, 1), -1);
            check.due("all that is seen then", Scene.seen(x), before);
        }
        for (int p : Scene.outside(4)) {
            check.due("local(" + p + ", 1) of 4", new CutLatticeDetect(4, 6).local(p, 1), -1);
        }
    }

    private static void refusesWhenFull() {
        CutLatticeDetect x = Scene.withResults();
        x.local(1, 1);
        x.local(1, 1);
        x.possibly();
        x.definitely();
        String before = Scene.seen(x);
        check.due("local of a full process", x.local(1, 9), -1);
        check.due("all that is seen then", Scene.seen(x), before);
        check.due("another process still has room", x.local(0, 1), 2);
    }

    private static void forgetsResults() {
        CutLatticeDetect x = Scene.withResults();
        check.due("local(2, 0)", x.local(2, 0), 1);
        check.dueNoWitness("after local", x);
        check.dueNoPath("after local", x);
    }
}
