import java.util.List;
import java.util.function.Function;
import java.util.function.Supplier;

/** Sentences of promises 5 to 7: local, send and receive. */
final class ReportingSentences {
    private static final List<Supplier<CutLatticeDetect>> SCENES = List.of(Scene::busy, Scene::busyBySum);
    private static final int[] FAR = {Scene.MIN, -1, 4, 5, Scene.MAX};

    private ReportingSentences() {
    }

    static void testAll(Sentences s) {
        testLocal(s);
        testSend(s);
        testReceive(s);
    }

    private static void testLocal(Sentences s) {
        s.in("Promise 5");
        s.test("`local(p, value)` reports a local event of p that sets x_p = value.", ReportingSentences::localSets);
        s.test("p not in 0..P-1: refused.", ReportingSentences::localOfNoProcess);
        s.test("n_p = E: refused.", ReportingSentences::localWhenFull);
        s.test("A refused call answers -1 and changes nothing.", ReportingSentences::localRefusedChangesNothing);
        s.test("Otherwise n_p increases by 1", ReportingSentences::localAddsOne);
        s.test("the new event k = n_p gets value `value` and timestamp V(p,k) by the rule above (steps 1 and 3)",
                ReportingSentences::localStamps);
        s.test("the witness and the recorded path become none", ReportingSentences::localForgets);
        s.test("the call answers the new n_p (a number in 1..E).", ReportingSentences::localAnswersOneToE);
        s.test("No other process's events, no messages, and no earlier timestamp change.",
                ReportingSentences::localLeavesOthers);
    }

    private static void testSend(Sentences s) {
        s.in("Promise 6");
        s.test("`send(p, value)` reports a send event of p that sets x_p = value.", ReportingSentences::sendSets);
        s.test("p not in 0..P-1: refused.", ReportingSentences::sendOfNoProcess);
        s.test("n_p = E: refused.", ReportingSentences::sendWhenFull);
        s.test("`MAX_MESSAGES` messages already sent: refused.", ReportingSentences::sendWhenAllAreSent);
        s.test("A refused call answers -1 and changes nothing.", ReportingSentences::sendRefusedChangesNothing);
        s.test("Otherwise the event is added as in `local`", ReportingSentences::sendAddsTheEvent);
        s.test("with id equal to the number of messages sent before", ReportingSentences::sendNumbers);
        s.test("sender p", ReportingSentences::sendKeepsTheSender);
        s.test("and C(m) = the new event's timestamp.", ReportingSentences::sendKeepsTheStamp);
        s.test("The message is not yet received.", ReportingSentences::sentIsNotReceived);
        s.test("The witness and the recorded path become none", ReportingSentences::sendForgets);
        s.test("and the call answers m (a number in 0..15).", ReportingSentences::sendAnswersZeroToFifteen);
        s.test("Once 16 messages have been sent, every further `send` with a valid p and n_p < E is refused, for the"
                + " life of the object.", ReportingSentences::sendIsRefusedForLife);
    }

    private static void testReceive(Sentences s) {
        s.in("Promise 7");
        s.test("`receive(p, msg, value)` reports a receive event of p that consumes message msg and sets x_p = value.",
                ReportingSentences::receiveSets);
        s.test("p not in 0..P-1: refused.", ReportingSentences::receiveOfNoProcess);
        s.test("n_p = E: refused.", ReportingSentences::receiveWhenFull);
        s.test("msg not in 0..(messages sent so far - 1): refused.", ReportingSentences::receiveOfNoMessage);
        s.test("msg already received: refused.", ReportingSentences::receiveAgain);
        s.test("sender of msg = p: refused.", ReportingSentences::receiveOfOnesOwn);
        s.test("A refused call answers -1 and changes nothing.", ReportingSentences::receiveRefusedChangesNothing);
        s.test("Otherwise msg is marked received, n_p increases by 1", ReportingSentences::receiveMarks);
        s.test("timestamp V(p,k) by all three steps of the timestamp rule (taking the componentwise greater with"
                + " C(msg))", ReportingSentences::receiveStamps);
        s.test("the witness and the recorded path become none", ReportingSentences::receiveForgets);
        s.test("and the call answers the new n_p.", ReportingSentences::receiveAnswersTheCount);
        s.test("Any process other than the sender may receive a message.", ReportingSentences::anyOtherReceives);
        s.test("Other messages and other processes' events are not changed.",
                ReportingSentences::receiveLeavesOthers);
    }

    /** Four processes; p is full of local events, sends and, if there is room for three events, a receive. */
    private static CutLatticeDetect fullAt(int p, int room) {
        CutLatticeDetect x = new CutLatticeDetect(4, room);
        x.send((p + 1) % 4, 1);
        for (int k = 1; k <= room; k++) {
            if (k % 3 == 1) {
                x.local(p, k);
            } else if (k % 3 == 2) {
                x.send(p, k);
            } else if (k == 3) {
                x.receive(p, 0, k);
            } else {
                x.local(p, k);
            }
        }
        x.setBounds(p, 1, 1);
        x.possibly();
        x.definitely();
        return x;
    }

    private static void dueForgotten(Check check, CutLatticeDetect x) {
        check.dueNoWitness("then", x);
        check.dueNoPath("then", x);
    }

    private static void localSets(Check check) {
        for (int p = 0; p < 4; p++) {
            for (int value : Scene.VALUES) {
                CutLatticeDetect x = new CutLatticeDetect(4, 2);
                x.local(p, value);
                x.local(p, 6);
                check.due("the first", Scene.hasValue(x, p, 1, value), true);
                check.due("the second", Scene.hasValue(x, p, 2, 6), true);
                check.due("the initial value", Scene.hasValue(x, p, 0, 0), true);
            }
        }
    }

    private static void localOfNoProcess(Check check) {
        dueRefusedOutside(check, "local", p -> x -> x.local(p, 9));
    }

    private static void dueRefusedOutside(Check check, String name,
            Function<Integer, Function<CutLatticeDetect, Object>> call) {
        for (int procs = 1; procs <= 4; procs++) {
            for (int p : Scene.outside(procs)) {
                CutLatticeDetect x = new CutLatticeDetect(procs, 6);
                x.send(0, 1);
                check.due(name + " of " + p + " of " + procs, call.apply(p).apply(x), -1);
                for (int q = 0; q < procs; q++) {
                    check.due("eventCount(" + q + ") then", x.eventCount(q), q == 0 ? 1 : 0);
                }
                check.due("the next message's id", x.send(procs - 1, 1), 1);
            }
        }
    }

    private static void dueRefusedWhenFull(Check check, String name,
            Function<Integer, Function<CutLatticeDetect, Object>> call) {
        for (int room = 1; room <= 6; room++) {
            for (int p = 0; p < 4; p++) {
                int at = p;
                int most = room;
                Unchanged.dueByRefused(check, () -> fullAt(at, most), name + " of " + p + " with E = " + room,
                        call.apply(p), -1);
            }
        }
    }

    private static void localWhenFull(Check check) {
        dueRefusedWhenFull(check, "local", p -> x -> x.local(p, 9));
    }

    private static void localRefusedChangesNothing(Check check) {
        for (Supplier<CutLatticeDetect> scene : SCENES) {
            Unchanged.dueByRefused(check, scene, "local(0, 9), full", x -> x.local(0, 9), -1);
            for (int p : FAR) {
                Unchanged.dueByRefused(check, scene, "local(" + p + ", 9)", x -> x.local(p, 9), -1);
            }
        }
    }

    private static void localAddsOne(Check check) {
        for (int p = 1; p < 4; p++) {
            CutLatticeDetect x = Scene.busy();
            x.local(p, 1);
            dueCounts(check, x, 3, p == 1 ? 2 : 1, p == 2 ? 2 : 1, p == 3 ? 1 : 0);
        }
    }

    private static void localStamps(Check check) {
        CutLatticeDetect x = Scene.busy();
        x.local(1, 8);
        check.due("after a receive", Scene.stampOf(x, 1, 2), "1 2 0 0");
        check.due("its value", Scene.hasValue(x, 1, 2, 8), true);
        x.local(2, 8);
        check.due("after a send", Scene.stampOf(x, 2, 2), "0 0 2 0");
        x.local(3, 8);
        check.due("as the first", Scene.stampOf(x, 3, 1), "0 0 0 1");
        x.local(3, 9);
        check.due("after a local event", Scene.stampOf(x, 3, 2), "0 0 0 2");
        check.due("its value", Scene.hasValue(x, 3, 2, 9), true);
    }

    private static void localForgets(Check check) {
        for (int p = 1; p < 4; p++) {
            CutLatticeDetect x = Scene.busy();
            x.local(p, 0);
            dueForgotten(check, x);
        }
        CutLatticeDetect empty = Scene.withEmptyPath();
        empty.local(0, 0);
        dueForgotten(check, empty);
        CutLatticeDetect initial = Scene.withInitialWitness();
        initial.local(2, 0);
        dueForgotten(check, initial);
    }

    private static void localAnswersOneToE(Check check) {
        for (int room = 1; room <= 6; room++) {
            CutLatticeDetect x = new CutLatticeDetect(2, room);
            for (int k = 1; k <= room + 2; k++) {
                check.due("local no. " + k + " of " + room, x.local(1, 0), k <= room ? k : -1);
            }
        }
    }

    /** What is known of the events and messages of the busy scene before any further event. */
    private static void dueBusyEventsAsBefore(Check check, CutLatticeDetect x) {
        check.due("V(0,1)", Scene.stampOf(x, 0, 1), "1 0 0 0");
        check.due("V(0,2)", Scene.stampOf(x, 0, 2), "2 0 0 0");
        check.due("V(0,3)", Scene.stampOf(x, 0, 3), "3 0 0 0");
        check.due("V(1,1)", Scene.stampOf(x, 1, 1), "1 1 0 0");
        check.due("V(2,1)", Scene.stampOf(x, 2, 1), "0 0 1 0");
        int[][] values = {{0, 1, 2, -9}, {2, 6}, {0, 7}, {4}};
        for (int p = 0; p < 4; p++) {
            for (int k = 0; k < values[p].length; k++) {
                check.due("value " + k + " of " + p, Scene.hasValue(x, p, k, values[p][k]), true);
            }
        }
    }

    private static void dueCounts(Check check, CutLatticeDetect x, int... counts) {
        for (int p = 0; p < counts.length; p++) {
            check.due("eventCount(" + p + ")", x.eventCount(p), counts[p]);
        }
    }

    private static void localLeavesOthers(Check check) {
        CutLatticeDetect x = Scene.busy();
        x.local(1, 50);
        dueCounts(check, x, 3, 2, 1, 0);
        x.local(2, 50);
        x.local(3, 50);
        dueCounts(check, x, 3, 2, 2, 1);
        dueBusyEventsAsBefore(check, x);
        check.due("message 0 is received", x.receive(3, 0, 1), -1);
        check.due("message 3 does not exist", x.receive(3, 3, 1), -1);
        check.due("message 1 is pending", x.receive(3, 1, 1), 2);
        check.due("its timestamp", Scene.stampOf(x, 3, 2), "2 0 0 2");
        check.due("message 2 is not for its sender", x.receive(2, 2, 1), -1);
        check.due("message 2 is pending", x.receive(1, 2, 1), 3);
        check.due("the next id", x.send(2, 1), 3);
    }

    private static void sendSets(Check check) {
        for (int p = 0; p < 4; p++) {
            for (int value : Scene.VALUES) {
                CutLatticeDetect x = new CutLatticeDetect(4, 2);
                x.send(p, value);
                x.send(p, 6);
                check.due("the first", Scene.hasValue(x, p, 1, value), true);
                check.due("the second", Scene.hasValue(x, p, 2, 6), true);
                check.due("the initial value", Scene.hasValue(x, p, 0, 0), true);
            }
        }
    }

    private static void sendOfNoProcess(Check check) {
        dueRefusedOutside(check, "send", p -> x -> x.send(p, 9));
    }

    private static void sendWhenFull(Check check) {
        dueRefusedWhenFull(check, "send", p -> x -> x.send(p, 9));
    }

    private static void sendWhenAllAreSent(Check check) {
        for (int p = 0; p < 4; p++) {
            CutLatticeDetect x = Scene.allSent();
            int before = x.eventCount(p);
            check.due("send no. 17, of " + p, x.send(p, 9), -1);
            check.due("eventCount(" + p + ")", x.eventCount(p), before);
            check.due("there was room", x.local(p, 9), before + 1);
        }
        CutLatticeDetect x = new CutLatticeDetect(3, 6);
        for (int m = 0; m < 15; m++) {
            x.send(m % 3, 1);
        }
        check.due("the sixteenth", x.send(2, 1), 15);
        check.due("the seventeenth", x.send(0, 1), -1);
    }

    private static void sendRefusedChangesNothing(Check check) {
        for (Supplier<CutLatticeDetect> scene : SCENES) {
            Unchanged.dueByRefused(check, scene, "send(0, 9), full", x -> x.send(0, 9), -1);
            for (int p : FAR) {
                Unchanged.dueByRefused(check, scene, "send(" + p + ", 9)", x -> x.send(p, 9), -1);
            }
        }
        for (int p = 0; p < 4; p++) {
            int sender = p;
            Unchanged.dueByRefused(check, Scene::allSent, "send(" + p + ", 9), all sent", x -> x.send(sender, 9), -1);
        }
    }

    private static void sendAddsTheEvent(Check check) {
        CutLatticeDetect x = Scene.busy();
        x.send(1, 50);
        dueCounts(check, x, 3, 2, 1, 0);
        check.due("after a receive", Scene.stampOf(x, 1, 2), "1 2 0 0");
        x.send(3, 50);
        dueCounts(check, x, 3, 2, 1, 1);
        check.due("as the first", Scene.stampOf(x, 3, 1), "0 0 0 1");
        check.due("message 1 is pending", x.receive(3, 1, 1), 2);
        x.send(3, 51);
        check.due("after a receive", Scene.stampOf(x, 3, 3), "2 0 0 3");
        check.due("its value", Scene.hasValue(x, 3, 3, 51), true);
        dueBusyEventsAsBefore(check, x);
    }

    private static void sendNumbers(Check check) {
        CutLatticeDetect x = Scene.busy();
        check.due("after three messages", x.send(1, 1), 3);
        x.local(2, 1);
        x.receive(3, 3, 1);
        check.due("after four", x.send(2, 1), 4);
        check.due("refused", x.send(2, 1), -1);
        check.due("after five", x.send(3, 1), 5);
        check.due("the first of all", new CutLatticeDetect(1, 1).send(0, 1), 0);
    }

    private static void sendKeepsTheSender(Check check) {
        for (int m = 0; m < 16; m++) {
            for (int p = 0; p < 4; p++) {
                CutLatticeDetect x = Scene.allSent();
                int before = x.eventCount(p);
                check.due(p + " receives " + m, x.receive(p, m, 1), m / 5 == p ? -1 : before + 1);
            }
        }
    }

    private static void sendKeepsTheStamp(Check check) {
        for (int m = 0; m < 16; m++) {
            CutLatticeDetect x = Scene.allSent();
            int sender = m / 5;
            int receiver = (sender + 1) % 4;
            int k = x.receive(receiver, m, 1);
            for (int q = 0; q < 4; q++) {
                int others = q == sender ? m % 5 + 1 : 0;
                check.due("of message " + m, x.stamp(receiver, k, q), q == receiver ? k : others);
            }
        }
        CutLatticeDetect x = Scene.busy();
        x.send(1, 1);
        x.receive(3, 3, 1);
        check.due("with what the sender knew", Scene.stampOf(x, 3, 1), "1 2 0 1");
    }

    private static void sentIsNotReceived(Check check) {
        for (int m = 0; m < 16; m++) {
            CutLatticeDetect x = Scene.allSent();
            check.due("message " + m, x.receive((m / 5 + 1) % 4, m, 1) > 0, true);
        }
        CutLatticeDetect x = new CutLatticeDetect(2, 6);
        for (int m = 0; m < 6; m++) {
            x.send(0, 1);
            check.due("one after the other", x.receive(1, m, 1), m + 1);
        }
    }

    private static void sendForgets(Check check) {
        for (int p = 1; p < 4; p++) {
            CutLatticeDetect x = Scene.busy();
            x.send(p, 0);
            dueForgotten(check, x);
        }
        CutLatticeDetect empty = Scene.withEmptyPath();
        empty.send(0, 0);
        dueForgotten(check, empty);
        CutLatticeDetect initial = Scene.withInitialWitness();
        initial.send(2, 0);
        dueForgotten(check, initial);
    }

    private static void sendAnswersZeroToFifteen(Check check) {
        CutLatticeDetect x = new CutLatticeDetect(4, 6);
        for (int i = 0; i < 24; i++) {
            check.due("send no. " + i, x.send(i / 6, 1), i < 16 ? i : -1);
        }
    }

    private static void sendIsRefusedForLife(Check check) {
        CutLatticeDetect x = Scene.allSent();
        x.receive(3, 0, 1);
        x.receive(3, 5, 1);
        check.due("after receives", x.send(3, 1), -1);
        x.receive(0, 15, 1);
        check.due("after the last one is received", x.send(3, 1), -1);
        x.setPredicate(1, 4);
        x.setBounds(0, 1, 2);
        x.possibly();
        x.definitely();
        for (int i = 0; i < 300; i++) {
            check.due("again and again", x.send(1 + i % 3, 1), -1);
        }
        x.local(3, 1);
        check.due("after a local event", x.send(3, 1), -1);
        dueCounts(check, x, 6, 5, 5, 4);
    }

    private static void receiveSets(Check check) {
        for (int p = 0; p < 4; p++) {
            for (int value : Scene.VALUES) {
                CutLatticeDetect x = new CutLatticeDetect(4, 2);
                x.send((p + 3) % 4, 1);
                x.send((p + 3) % 4, 1);
                x.receive(p, 1, value);
                x.receive(p, 0, 6);
                check.due("the first", Scene.hasValue(x, p, 1, value), true);
                check.due("the second", Scene.hasValue(x, p, 2, 6), true);
                check.due("the initial value", Scene.hasValue(x, p, 0, 0), true);
            }
        }
    }

    private static void receiveOfNoProcess(Check check) {
        dueRefusedOutside(check, "receive", p -> x -> x.receive(p, 0, 9));
    }

    private static void receiveWhenFull(Check check) {
        for (int room = 1; room <= 6; room++) {
            for (int p = 0; p < 4; p++) {
                int at = p;
                int most = room;
                Supplier<CutLatticeDetect> scene = () -> withPendingAt(at, most);
                Unchanged.dueByRefused(check, scene, "receive of " + p + " with E = " + room,
                        x -> x.receive(at, 0, 9), -1);
                check.due("another may", scene.get().receive((p + 2) % 4, 0, 9), 1);
            }
        }
    }

    /** Process p is full by local events, and message 0, of its neighbour, is pending. */
    private static CutLatticeDetect withPendingAt(int p, int room) {
        CutLatticeDetect x = new CutLatticeDetect(4, room);
        x.send((p + 1) % 4, 1);
        for (int k = 1; k <= room; k++) {
            x.local(p, k);
        }
        x.setBounds(p, 1, 1);
        x.possibly();
        x.definitely();
        return x;
    }

    private static void receiveOfNoMessage(Check check) {
        for (int sent = 0; sent <= 16; sent++) {
            CutLatticeDetect x = new CutLatticeDetect(4, 6);
            for (int m = 0; m < sent; m++) {
                x.send(m / 6, 1);
            }
            for (int msg : Scene.outside(sent)) {
                check.due("message " + msg + " of " + sent, x.receive(3, msg, 9), -1);
            }
            check.due("message " + sent + " of " + sent, x.receive(3, sent, 9), -1);
            check.due("eventCount(3)", x.eventCount(3), 0);
            check.due("the last of " + sent, x.receive(3, sent - 1, 9), sent == 0 ? -1 : 1);
        }
        for (int msg : new int[] {Scene.MIN, -1, 3, 4, 15, 16, Scene.MAX}) {
            Unchanged.dueByRefused(check, Scene::busy, "receive(3, " + msg + ", 9)", x -> x.receive(3, msg, 9), -1);
        }
    }

    private static void receiveAgain(Check check) {
        for (int m = 0; m < 16; m++) {
            for (int p = 0; p < 4; p++) {
                CutLatticeDetect x = Scene.allSent();
                x.receive((m / 5 + 1) % 4, m, 1);
                int before = x.eventCount(p);
                check.due(p + " receives " + m + " again", x.receive(p, m, 9), -1);
                check.due("eventCount(" + p + ")", x.eventCount(p), before);
            }
        }
        for (Supplier<CutLatticeDetect> scene : SCENES) {
            Unchanged.dueByRefused(check, scene, "receive(1, 0, 9)", x -> x.receive(1, 0, 9), -1);
            Unchanged.dueByRefused(check, scene, "receive(3, 0, 9)", x -> x.receive(3, 0, 9), -1);
        }
    }

    private static void receiveOfOnesOwn(Check check) {
        for (int m = 0; m < 16; m++) {
            CutLatticeDetect x = Scene.allSent();
            int sender = m / 5;
            check.due("own message " + m, x.receive(sender, m, 9), -1);
            check.due("it is still there", x.receive((sender + 1) % 4, m, 9) > 0, true);
        }
        for (Supplier<CutLatticeDetect> scene : SCENES) {
            Unchanged.dueByRefused(check, scene, "receive(2, 2, 9)", x -> x.receive(2, 2, 9), -1);
        }
        CutLatticeDetect alone = new CutLatticeDetect(1, 6);
        alone.send(0, 1);
        check.due("a single process", alone.receive(0, 0, 9), -1);
    }

    private static void receiveRefusedChangesNothing(Check check) {
        for (Supplier<CutLatticeDetect> scene : SCENES) {
            for (int p : FAR) {
                Unchanged.dueByRefused(check, scene, "receive(" + p + ", 1, 9)", x -> x.receive(p, 1, 9), -1);
            }
            Unchanged.dueByRefused(check, scene, "receive(0, 2, 9), full", x -> x.receive(0, 2, 9), -1);
            Unchanged.dueByRefused(check, scene, "receive(3, -1, 9)", x -> x.receive(3, -1, 9), -1);
            Unchanged.dueByRefused(check, scene, "receive(3, 3, 9)", x -> x.receive(3, 3, 9), -1);
            Unchanged.dueByRefused(check, scene, "receive(1, 0, 9), received", x -> x.receive(1, 0, 9), -1);
            Unchanged.dueByRefused(check, scene, "receive(2, 2, 9), one's own", x -> x.receive(2, 2, 9), -1);
        }
    }

    private static void receiveMarks(Check check) {
        CutLatticeDetect x = Scene.busy();
        x.receive(3, 1, 1);
        dueCounts(check, x, 3, 1, 1, 1);
        check.due("it is marked", x.receive(1, 1, 1), -1);
        x.receive(3, 2, 1);
        dueCounts(check, x, 3, 1, 1, 2);
        check.due("it is marked", x.receive(1, 2, 1), -1);
    }

    private static void receiveStamps(Check check) {
        CutLatticeDetect x = Scene.busy();
        x.receive(1, 2, 8);
        check.due("both what it knew and what is new", Scene.stampOf(x, 1, 2), "1 2 1 0");
        x.receive(1, 1, 9);
        check.due("more of the same process", Scene.stampOf(x, 1, 3), "2 3 1 0");
        check.due("its value", Scene.hasValue(x, 1, 3, 9), true);
        CutLatticeDetect y = new CutLatticeDetect(2, 6);
        y.send(0, 1);
        y.send(0, 1);
        y.receive(1, 1, 1);
        y.receive(1, 0, 1);
        check.due("the older message later", Scene.stampOf(y, 1, 2), "2 2 -1 -1");
    }

    private static void receiveForgets(Check check) {
        for (Supplier<CutLatticeDetect> scene : SCENES) {
            CutLatticeDetect x = scene.get();
            x.receive(3, 1, 4);
            dueForgotten(check, x);
            CutLatticeDetect y = scene.get();
            y.receive(1, 2, 6);
            dueForgotten(check, y);
        }
    }

    private static void receiveAnswersTheCount(Check check) {
        for (int room = 1; room <= 6; room++) {
            CutLatticeDetect x = new CutLatticeDetect(3, room);
            for (int i = 0; i < room; i++) {
                x.send(0, 1);
                x.send(1, 1);
            }
            for (int k = 1; k <= room + 1; k++) {
                check.due("receive no. " + k + " of " + room, x.receive(2, k - 1, 1), k <= room ? k : -1);
            }
        }
        check.due("after another event", Scene.busy().receive(1, 1, 1), 2);
    }

    private static void anyOtherReceives(Check check) {
        for (int procs = 2; procs <= 4; procs++) {
            for (int sender = 0; sender < procs; sender++) {
                for (int p = 0; p < procs; p++) {
                    CutLatticeDetect x = new CutLatticeDetect(procs, 6);
                    x.send(sender, 1);
                    check.due(p + " from " + sender, x.receive(p, 0, 1), p == sender ? -1 : 1);
                }
            }
        }
    }

    private static void receiveLeavesOthers(Check check) {
        CutLatticeDetect x = Scene.busy();
        x.receive(3, 1, 50);
        dueCounts(check, x, 3, 1, 1, 1);
        dueBusyEventsAsBefore(check, x);
        check.due("message 0 is received", x.receive(3, 0, 1), -1);
        check.due("message 2 is not for its sender", x.receive(2, 2, 1), -1);
        check.due("message 2 is pending", x.receive(1, 2, 1), 2);
        check.due("its timestamp", Scene.stampOf(x, 1, 2), "1 2 1 0");
        check.due("the next id", x.send(2, 1), 3);
    }
}
