/** Sentences of "Terms used below" about processes, events, messages and timestamps. */
final class EventTerms {
    private EventTerms() {
    }

    static void testAll(Sentences s) {
        s.in("Terms used below");
        s.test("P is fixed by the constructor.", EventTerms::procsStayFixed);
        s.test("Each process p has an initial value init_p (0 unless changed by `setInitial`).",
                EventTerms::initialIsZeroUnlessChanged);
        s.test("Process p reports its events in order; they are numbered 1, 2, .., n_p, where n_p = `eventCount(p)`.",
                EventTerms::eventsAreNumberedFromOne);
        s.test("n_p never exceeds E, which is fixed by the constructor.", EventTerms::neverMoreThanE);
        s.test("Every event gives x_p a new value (its `value` argument).", EventTerms::everyKindSetsTheValue);
        s.test("local: no message.", EventTerms::localMakesNoMessage);
        s.test("send: creates one message.", EventTerms::sendMakesOneMessage);
        s.test("Messages get the ids 0, 1, 2, .. in the order in which they are sent.",
                EventTerms::idsFollowTheOrderOfSending);
        s.test("At most `MAX_MESSAGES` messages are sent over the life of the object.", EventTerms::sixteenMessages);
        s.test("A message names no receiver.", EventTerms::anyoneElseReceives);
        s.test("receive: consumes one message that another process sent and that has not yet been received.",
                EventTerms::receiveConsumesOne);
        s.test("Each message is received at most once.", EventTerms::receivedOnce);
        s.test("a vector of P ints", EventTerms::stampHasOneNumberForEachProcess);
        s.test("computed when the event is reported", EventTerms::stampIsComputedAtOnce);
        s.test("Start from V(p,k-1)", EventTerms::stampsBuildOnTheLast);
        s.test("or from all zeros when k = 1.", EventTerms::firstStampStartsFromZeros);
        s.test("For a receive of message m, replace each component q by the greater of it and C(m)[q]",
                EventTerms::receiveTakesTheGreater);
        s.test("where C(m) is the timestamp of the send event of m.", EventTerms::messageCarriesTheSendsStamp);
        s.test("Set component p to k.", EventTerms::ownComponentIsK);
        s.test("So for q != p, V(p,k)[q] is the number of events of q that happened before event k of p.",
                EventTerms::stampCountsWhatHappenedBefore);
    }

    private static void procsStayFixed(Check check) {
        for (int procs = 1; procs <= 4; procs++) {
            CutLatticeDetect x = new CutLatticeDetect(procs, 6);
            for (int p = -1; p <= 5; p++) {
                x.setInitial(p, 1);
                x.setBounds(p, 0, 9);
                x.local(p, 1);
                x.send(p, 1);
            }
            x.possibly();
            x.definitely();
            for (int p = -1; p <= 5; p++) {
                check.due("eventCount(" + p + ") of " + procs, x.eventCount(p), p >= 0 && p < procs ? 2 : -1);
            }
        }
    }

    private static void initialIsZeroUnlessChanged(Check check) {
        for (int procs = 1; procs <= 4; procs++) {
            for (int p = 0; p < procs; p++) {
                CutLatticeDetect x = new CutLatticeDetect(procs, 6);
                x.setInitial(p, 7);
                for (int q = 0; q < procs; q++) {
                    check.due("x_" + q + " is 0", Scene.hasValue(x, q, 0, 0), q != p);
                    check.due("x_" + q + " is 7", Scene.hasValue(x, q, 0, 7), q == p);
                }
            }
        }
    }

    private static void eventsAreNumberedFromOne(Check check) {
        CutLatticeDetect x = new CutLatticeDetect(2, 6);
        check.due("eventCount(1)", x.eventCount(1), 0);
        check.due("there is no event 1", x.stamp(1, 1, 1), -1);
        for (int k = 1; k <= 6; k++) {
            x.local(1, 10 * k);
            check.due("eventCount(1)", x.eventCount(1), k);
            check.due("there is no event 0", x.stamp(1, 0, 1), -1);
            check.due("the last event", x.stamp(1, k, 1), k);
            check.due("none after it", x.stamp(1, k + 1, 1), -1);
        }
        for (int k = 1; k <= 6; k++) {
            check.due("event " + k, Scene.hasValue(x, 1, k, 10 * k), true);
        }
    }

    private static void neverMoreThanE(Check check) {
        for (int room = 1; room <= 6; room++) {
            for (int p = 0; p < 4; p++) {
                CutLatticeDetect x = new CutLatticeDetect(4, room);
                int other = (p + 1) % 4;
                x.send(other, 0);
                for (int i = 1; i <= 9; i++) {
                    x.local(p, i);
                    x.send(p, i);
                    x.receive(p, 0, i);
                    check.due("at most E events", x.eventCount(p) <= room, true);
                }
                check.due("E events of " + p, x.eventCount(p), room);
                check.due("one event of " + other, x.eventCount(other), 1);
            }
        }
    }

    private static void everyKindSetsTheValue(Check check) {
        for (int value : Scene.VALUES) {
            CutLatticeDetect x = new CutLatticeDetect(2, 6);
            x.send(1, 5);
            x.local(0, value);
            x.local(0, 5);
            x.send(0, value);
            x.local(0, 5);
            x.receive(0, 0, value);
            for (int k = 1; k <= 5; k++) {
                check.due("event " + k + " gives " + value, Scene.hasValue(x, 0, k, value), k % 2 == 1);
                check.due("event " + k + " gives 5", Scene.hasValue(x, 0, k, 5), k % 2 == 0);
            }
        }
    }

    private static void localMakesNoMessage(Check check) {
        CutLatticeDetect x = new CutLatticeDetect(2, 6);
        for (int i = 0; i < 5; i++) {
            x.local(0, i);
            check.due("receive(1, 0, 1)", x.receive(1, 0, 1), -1);
        }
        check.due("the first send", x.send(0, 1), 0);
    }

    private static void sendMakesOneMessage(Check check) {
        CutLatticeDetect x = new CutLatticeDetect(2, 6);
        for (int m = 0; m < 3; m++) {
            check.due("before send " + m, x.receive(1, m, 1), -1);
            x.send(0, 1);
            check.due("no second one", x.receive(1, m + 1, 1), -1);
            check.due("the message", x.receive(1, m, 1), m + 1);
        }
    }

    private static void idsFollowTheOrderOfSending(Check check) {
        CutLatticeDetect x = new CutLatticeDetect(4, 6);
        int[] senders = {2, 2, 0, 3, 1, 0, 0, 2, 3, 3, 1, 1, 1, 2, 0, 3};
        for (int m = 0; m < senders.length; m++) {
            check.due("send no. " + m, x.send(senders[m], m), m);
        }
        CutLatticeDetect y = new CutLatticeDetect(2, 6);
        y.send(0, 1);
        y.local(0, 1);
        y.receive(1, 0, 1);
        check.due("a received message keeps its id from others", y.send(1, 1), 1);
    }

    private static void sixteenMessages(Check check) {
        CutLatticeDetect x = new CutLatticeDetect(3, 6);
        int sent = 0;
        for (int i = 0; i < 30; i++) {
            sent += x.send(i % 3, i) >= 0 ? 1 : 0;
        }
        check.due("messages", sent, 16);
        check.due("events", x.eventCount(0) + x.eventCount(1) + x.eventCount(2), 16);
    }

    private static void anyoneElseReceives(Check check) {
        for (int sender = 0; sender < 4; sender++) {
            for (int p = 0; p < 4; p++) {
                CutLatticeDetect x = new CutLatticeDetect(4, 6);
                x.send(sender, 1);
                check.due(p + " from " + sender, x.receive(p, 0, 1), p == sender ? -1 : 1);
            }
        }
    }

    private static void receiveConsumesOne(Check check) {
        CutLatticeDetect x = new CutLatticeDetect(3, 6);
        x.send(0, 1);
        x.send(0, 1);
        check.due("not one's own", x.receive(0, 0, 1), -1);
        check.due("another's", x.receive(1, 0, 1), 1);
        check.due("it is gone", x.receive(2, 0, 1), -1);
        check.due("the next one is not", x.receive(2, 1, 1), 1);
    }

    private static void receivedOnce(Check check) {
        for (int first = 1; first < 4; first++) {
            CutLatticeDetect x = new CutLatticeDetect(4, 6);
            x.send(0, 1);
            x.receive(first, 0, 1);
            for (int p = 0; p < 4; p++) {
                check.due("again by " + p, x.receive(p, 0, 1), -1);
                check.due("eventCount(" + p + ")", x.eventCount(p), p == 0 || p == first ? 1 : 0);
            }
        }
    }

    private static void stampHasOneNumberForEachProcess(Check check) {
        for (int procs = 1; procs <= 4; procs++) {
            CutLatticeDetect x = new CutLatticeDetect(procs, 6);
            x.local(0, 1);
            for (int q = 0; q < 4; q++) {
                int want = q == 0 ? 1 : 0;
                check.due("component " + q + " of " + procs, x.stamp(0, 1, q), q < procs ? want : -1);
            }
        }
    }

    private static void stampIsComputedAtOnce(Check check) {
        CutLatticeDetect x = new CutLatticeDetect(3, 6);
        x.local(1, 1);
        x.send(0, 1);
        check.due("before the receive", Scene.stampOf(x, 1, 1), "0 1 0 -1");
        x.receive(1, 0, 1);
        x.send(1, 1);
        x.receive(0, 1, 1);
        check.due("the local event of 1", Scene.stampOf(x, 1, 1), "0 1 0 -1");
        check.due("the send of 0", Scene.stampOf(x, 0, 1), "1 0 0 -1");
        check.due("the receive of 1", Scene.stampOf(x, 1, 2), "1 2 0 -1");
    }

    private static void stampsBuildOnTheLast(Check check) {
        CutLatticeDetect x = new CutLatticeDetect(4, 6);
        x.local(0, 1);
        x.send(0, 1);
        x.send(3, 1);
        x.receive(2, 0, 1);
        x.local(2, 1);
        check.due("local after a receive", Scene.stampOf(x, 2, 2), "2 0 2 0");
        x.receive(2, 1, 1);
        check.due("receive after a local event", Scene.stampOf(x, 2, 3), "2 0 3 1");
        x.send(2, 1);
        check.due("send after a receive", Scene.stampOf(x, 2, 4), "2 0 4 1");
        x.local(2, 1);
        check.due("local after a send", Scene.stampOf(x, 2, 5), "2 0 5 1");
    }

    private static void firstStampStartsFromZeros(Check check) {
        for (int p = 0; p < 4; p++) {
            CutLatticeDetect x = new CutLatticeDetect(4, 6);
            // The others come first: nothing of theirs may be taken for what p knew.
            for (int q = 0; q < 4; q++) {
                if (q != p) {
                    x.send(q, 1);
                    x.local(q, 1);
                }
            }
            x.local(p, 1);
            for (int q = 0; q < 4; q++) {
                check.due("stamp(" + p + ", 1, " + q + ")", x.stamp(p, 1, q), q == p ? 1 : 0);
            }
        }
        CutLatticeDetect x = new CutLatticeDetect(3, 6);
        x.local(0, 1);
        x.send(0, 1);
        x.receive(2, 0, 1);
        check.due("a receive as first event", Scene.stampOf(x, 2, 1), "2 0 1 -1");
    }

    private static void receiveTakesTheGreater(Check check) {
        CutLatticeDetect x = new CutLatticeDetect(4, 6);
        x.send(0, 1);
        x.local(0, 1);
        x.send(0, 1);
        x.receive(1, 0, 1);
        x.local(2, 1);
        x.local(2, 1);
        x.send(2, 1);
        x.receive(3, 1, 1);
        x.receive(3, 2, 1);
        x.send(1, 1);
        check.due("the sender's", Scene.stampOf(x, 1, 2), "1 2 0 0");
        check.due("the receiver's before", Scene.stampOf(x, 3, 2), "3 0 3 2");
        x.receive(3, 3, 1);
        check.due("the greater of each", Scene.stampOf(x, 3, 3), "3 2 3 3");
        x.send(3, 1);
        x.receive(1, 4, 1);
        check.due("and the other way", Scene.stampOf(x, 1, 3), "3 3 3 4");
    }

    private static void messageCarriesTheSendsStamp(Check check) {
        CutLatticeDetect x = new CutLatticeDetect(3, 6);
        x.send(2, 1);
        x.send(0, 1);
        x.local(0, 1);
        x.receive(0, 0, 1);
        x.receive(1, 1, 1);
        // What 0 did after sending, a receive from 2 among it, is not in its message.
        check.due("the receive", Scene.stampOf(x, 1, 1), "1 1 0 -1");
        CutLatticeDetect y = new CutLatticeDetect(2, 6);
        y.local(0, 1);
        y.send(0, 1);
        y.receive(1, 0, 1);
        check.due("the send itself is in it", Scene.stampOf(y, 1, 1), "2 1 -1 -1");
    }

    private static void ownComponentIsK(Check check) {
        CutLatticeDetect x = new CutLatticeDetect(2, 6);
        for (int i = 0; i < 3; i++) {
            x.send(0, 1);
            x.receive(1, 2 * i, 1);
            x.send(1, 1);
            x.receive(0, 2 * i + 1, 1);
        }
        for (int k = 1; k <= 6; k++) {
            check.due("stamp(0, k, 0)", x.stamp(0, k, 0), k);
            check.due("stamp(1, k, 1)", x.stamp(1, k, 1), k);
        }
    }

    private static void stampCountsWhatHappenedBefore(Check check) {
        CutLatticeDetect x = new CutLatticeDetect(4, 6);
        x.local(0, 1);
        x.send(0, 1);
        x.receive(1, 0, 1);
        x.send(1, 1);
        x.local(1, 1);
        x.receive(2, 1, 1);
        x.send(2, 1);
        x.receive(3, 2, 1);
        x.send(3, 1);
        x.receive(0, 3, 1);
        check.due("two hops", Scene.stampOf(x, 2, 1), "2 2 1 0");
        check.due("three hops", Scene.stampOf(x, 3, 1), "2 2 2 1");
        check.due("all the way round", Scene.stampOf(x, 0, 3), "3 2 2 2");
        check.due("not before: the third of 1", Scene.stampOf(x, 1, 3), "2 3 0 0");
    }
}
