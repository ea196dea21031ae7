import java.util.List;
import java.util.function.Function;
import java.util.function.Supplier;

/** Sentences of promises 8 to 12: eventCount, stamp, cutState, countConsistent and countSatisfying. */
final class LookingSentences {
    private static final int GE = CutLatticeDetect.MODE_SUM_GE;
    private static final int LE = CutLatticeDetect.MODE_SUM_LE;
    private static final int INVALID = CutLatticeDetect.CUT_INVALID;
    private static final int INCONSISTENT = CutLatticeDetect.CUT_INCONSISTENT;
    private static final int FALSE = CutLatticeDetect.CUT_FALSE;
    private static final int TRUE = CutLatticeDetect.CUT_TRUE;
    private static final List<Supplier<CutLatticeDetect>> SCENES = List.of(Scene::busy, Scene::busyBySum,
            Scene::allSent, Scene::withEmptyPath, Scene::withInitialWitness);

    private LookingSentences() {
    }

    static void testAll(Sentences s) {
        testEventCount(s);
        testStamp(s);
        testCutState(s);
        testCounts(s);
    }

    private static void testEventCount(Sentences s) {
        s.in("Promise 8");
        s.test("`eventCount(p)` answers n_p, a number in 0..E", LookingSentences::countsFromZeroToE);
        s.test("or -1 if p is not in 0..P-1.", LookingSentences::countOfNoProcess);
        s.test("It changes nothing.", LookingSentences::eventCountChangesNothing);
    }

    private static void testStamp(Sentences s) {
        s.in("Promise 9");
        s.test("`stamp(p, k, q)` answers V(p,k)[q].", LookingSentences::tellsEveryComponent);
        s.test("It answers -1 unless 0 <= p < P", LookingSentences::stampOfNoProcess);
        s.test("1 <= k <= n_p", LookingSentences::stampOfNoEvent);
        s.test("and 0 <= q < P.", LookingSentences::stampForNoProcess);
        s.test("A timestamp, once computed, never changes.", LookingSentences::stampsStay);
        s.test("In particular `stamp(p, k, p)` answers k.", LookingSentences::ownComponent);
        s.test("The call changes nothing.", LookingSentences::stampChangesNothing);
    }

    private static void testCutState(Sentences s) {
        s.in("Promise 10");
        s.test("`cutState(c0, c1, c2, c3)` classifies the cut c with c_p = the p-th argument.",
                LookingSentences::argumentsInOrder);
        s.test("Arguments for processes p >= P must be 0.", LookingSentences::othersMustBeZero);
        s.test("Conditions, in order:", LookingSentences::conditionsInOrder);
        s.test("Some argument for p >= P is not 0", LookingSentences::othersNotZeroComeFirst);
        s.test("or some c_p for p < P is not in 0..n_p: answers `CUT_INVALID`.", LookingSentences::indexTooLarge);
        s.test("The cut is not consistent: answers `CUT_INCONSISTENT`.", LookingSentences::inconsistentBeforeFalse);
        s.test("The cut does not satisfy the predicate (under the current mode, bounds, threshold, initial values and"
                + " event values): answers `CUT_FALSE`.", LookingSentences::falseUnderTheCurrentPredicate);
        s.test("Otherwise: answers `CUT_TRUE`.", LookingSentences::otherwiseTrue);
        s.test("Negative arguments are invalid.", LookingSentences::negativeIsInvalid);
        s.test("The call changes nothing.", LookingSentences::cutStateChangesNothing);
    }

    private static void testCounts(Sentences s) {
        s.in("Promise 11");
        s.test("`countConsistent()` answers the number of consistent cuts", LookingSentences::countsConsistentOnes);
        s.test("that is, of index vectors c with 0 <= c_p <= n_p for each p < P that are consistent.",
                LookingSentences::countsAllIndices);
        s.test("The initial and final cuts are counted (once if they coincide).", LookingSentences::countsBothEnds);
        s.test("The call changes nothing.", LookingSentences::countConsistentChangesNothing);
        s.in("Promise 12");
        s.test("`countSatisfying()` answers the number of consistent cuts that satisfy the current predicate.",
                LookingSentences::countsSatisfyingOnes);
        s.test("It is never larger than `countConsistent()`.", LookingSentences::neverLarger);
        s.test("The call changes nothing.", LookingSentences::countSatisfyingChangesNothing);
    }

    private static void dueUnchanged(Check check, String name, Function<CutLatticeDetect, Object> call) {
        for (Supplier<CutLatticeDetect> scene : SCENES) {
            Unchanged.dueByGetter(check, scene, name, call);
        }
    }

    private static void countsFromZeroToE(Check check) {
        for (int room = 1; room <= 6; room++) {
            CutLatticeDetect x = new CutLatticeDetect(4, room);
            for (int p = 0; p < 4; p++) {
                for (int k = 0; k <= 8; k++) {
                    check.due("after " + k + " of " + room, x.eventCount(p), k < room ? k : room);
                    x.local(p, 1);
                }
            }
        }
    }

    private static void countOfNoProcess(Check check) {
        for (int procs = 1; procs <= 4; procs++) {
            CutLatticeDetect x = Scene.full(procs);
            for (int p : Scene.outside(procs)) {
                check.due("eventCount(" + p + ") of " + procs, x.eventCount(p), -1);
            }
            check.due("eventCount(0)", x.eventCount(0), 6);
            check.due("eventCount(P-1)", x.eventCount(procs - 1), 6);
        }
    }

    private static void eventCountChangesNothing(Check check) {
        for (int p = -1; p <= 4; p++) {
            int of = p;
            dueUnchanged(check, "eventCount(" + p + ")", x -> x.eventCount(of));
        }
    }

    private static void tellsEveryComponent(Check check) {
        CutLatticeDetect x = Scene.busy();
        x.receive(1, 2, 1);
        x.send(1, 1);
        x.receive(3, 3, 1);
        check.due("V(1,2)", Scene.stampOf(x, 1, 2), "1 2 1 0");
        check.due("V(1,3)", Scene.stampOf(x, 1, 3), "1 3 1 0");
        check.due("V(3,1)", Scene.stampOf(x, 3, 1), "1 3 1 1");
        check.due("V(0,3)", Scene.stampOf(x, 0, 3), "3 0 0 0");
    }

    private static void stampOfNoProcess(Check check) {
        for (int procs = 1; procs <= 4; procs++) {
            CutLatticeDetect x = Scene.full(procs);
            for (int p : Scene.outside(procs)) {
                check.due("stamp(" + p + ", 1, 0) of " + procs, x.stamp(p, 1, 0), -1);
                check.due("stamp(" + p + ", 6, P-1) of " + procs, x.stamp(p, 6, procs - 1), -1);
            }
            check.due("stamp(P-1, 6, P-1)", x.stamp(procs - 1, 6, procs - 1), 6);
            check.due("stamp(0, 1, 0)", x.stamp(0, 1, 0), 1);
        }
    }

    private static void stampOfNoEvent(Check check) {
        for (int n = 0; n <= 6; n++) {
            CutLatticeDetect x = new CutLatticeDetect(4, 6);
            for (int p = 0; p < 4; p++) {
                for (int k = 1; k <= n; k++) {
                    x.local(p, k);
                }
            }
            for (int p = 0; p < 4; p++) {
                for (int k : Scene.outside(n + 1)) {
                    check.due("stamp(" + p + ", " + k + ", " + p + ") of " + n, x.stamp(p, k, p), -1);
                }
                check.due("k = 0", x.stamp(p, 0, p), -1);
                check.due("k = n", x.stamp(p, n, p), n == 0 ? -1 : n);
                check.due("k = n + 1", x.stamp(p, n + 1, p), -1);
            }
        }
        CutLatticeDetect uneven = Scene.busy();
        check.due("event 3 of the one that has three", uneven.stamp(0, 3, 0), 3);
        check.due("event 2 of one that has one", uneven.stamp(1, 2, 0), -1);
        check.due("event 1 of one that has none", uneven.stamp(3, 1, 3), -1);
    }

    private static void stampForNoProcess(Check check) {
        for (int procs = 1; procs <= 4; procs++) {
            CutLatticeDetect x = Scene.full(procs);
            for (int q : Scene.outside(procs)) {
                check.due("stamp(0, 1, " + q + ") of " + procs, x.stamp(0, 1, q), -1);
                check.due("stamp(P-1, 6, " + q + ") of " + procs, x.stamp(procs - 1, 6, q), -1);
            }
            check.due("stamp(0, 1, P-1)", x.stamp(0, 1, procs - 1), procs == 1 ? 1 : 0);
        }
    }

    private static void stampsStay(Check check) {
        CutLatticeDetect x = Scene.crossing();
        String before = allStamps(x, 2);
        check.due("at first", before, "1 0 -1 -1, 2 1 -1 -1, 0 1 -1 -1, 1 2 -1 -1, ");
        x.send(0, 1);
        x.receive(1, 2, 1);
        x.send(1, 1);
        x.receive(0, 3, 1);
        x.local(0, 1);
        x.local(0, 1);
        x.setPredicate(GE, 3);
        x.setBounds(0, 1, 2);
        x.possibly();
        x.definitely();
        x.local(0, 1);
        check.due("after all other calls", allStamps(x, 2), before);
    }

    private static String allStamps(CutLatticeDetect x, int events) {
        StringBuilder all = new StringBuilder();
        for (int p = 0; p < 2; p++) {
            for (int k = 1; k <= events; k++) {
                all.append(Scene.stampOf(x, p, k)).append(", ");
            }
        }
        return all.toString();
    }

    private static void ownComponent(Check check) {
        CutLatticeDetect x = Scene.busy();
        x.receive(1, 2, 1);
        x.receive(3, 1, 1);
        for (int p = 0; p < 4; p++) {
            for (int k = 1; k <= x.eventCount(p); k++) {
                check.due("stamp(" + p + ", " + k + ", " + p + ")", x.stamp(p, k, p), k);
            }
        }
    }

    private static void stampChangesNothing(Check check) {
        dueUnchanged(check, "stamp(0, 1, 0)", x -> x.stamp(0, 1, 0));
        dueUnchanged(check, "stamp(1, 1, 3)", x -> x.stamp(1, 1, 3));
        dueUnchanged(check, "stamp(0, 0, 0)", x -> x.stamp(0, 0, 0));
        dueUnchanged(check, "stamp(0, 7, 0)", x -> x.stamp(0, 7, 0));
        dueUnchanged(check, "stamp(-1, 1, 4)", x -> x.stamp(-1, 1, 4));
    }

    private static void argumentsInOrder(Check check) {
        for (int p = 0; p < 4; p++) {
            CutLatticeDetect x = new CutLatticeDetect(4, 6);
            for (int k = 1; k <= p + 1; k++) {
                x.local(p, k);
            }
            x.setBounds(p, p + 1, p + 1);
            for (int q = 0; q < 4; q++) {
                int[] c = new int[4];
                c[q] = p + 1;
                check.due(p + 1 + " for " + q, x.cutState(c[0], c[1], c[2], c[3]), q == p ? TRUE : INVALID);
            }
        }
    }

    private static void othersMustBeZero(Check check) {
        for (int procs = 1; procs <= 3; procs++) {
            CutLatticeDetect x = Scene.full(procs);
            check.due("all 0", x.cutState(0, 0, 0, 0), TRUE);
            for (int p = procs; p < 4; p++) {
                for (int value : Scene.outside(0)) {
                    int[] c = new int[4];
                    c[p] = value;
                    check.due(value + " for " + p + " of " + procs, x.cutState(c[0], c[1], c[2], c[3]),
                            value == 0 ? TRUE : INVALID);
                }
            }
        }
    }

    private static void conditionsInOrder(Check check) {
        CutLatticeDetect x = Scene.crossing();
        x.setBounds(0, 20, 20);
        check.due("1 before 2", x.cutState(2, 0, 1, 0), INVALID);
        check.due("1 before 2", x.cutState(0, 2, 0, -1), INVALID);
        check.due("1 before 3", x.cutState(1, 1, 0, 1), INVALID);
        check.due("2 before 3", x.cutState(0, 2, 0, 0), INCONSISTENT);
        check.due("2 before 4", x.cutState(2, 0, 0, 0), INCONSISTENT);
        check.due("3 before 4", x.cutState(1, 1, 0, 0), FALSE);
        check.due("4", x.cutState(2, 1, 0, 0), TRUE);
    }

    private static void othersNotZeroComeFirst(Check check) {
        CutLatticeDetect x = Scene.crossing();
        check.due("inconsistent without it", x.cutState(2, 0, 0, 0), INCONSISTENT);
        check.due("c2 = 1", x.cutState(2, 0, 1, 0), INVALID);
        check.due("c3 = 1", x.cutState(2, 0, 0, 1), INVALID);
        check.due("c3 = -1", x.cutState(2, 0, 0, -1), INVALID);
        x.setBounds(0, 1, 0);
        check.due("false without it", x.cutState(1, 1, 0, 0), FALSE);
        check.due("c2 = 1", x.cutState(1, 1, 1, 0), INVALID);
    }

    private static void indexTooLarge(Check check) {
        int[] n = {2, 0, 6, 5};
        CutLatticeDetect x = new CutLatticeDetect(4, 6);
        for (int p = 0; p < 4; p++) {
            for (int k = 1; k <= n[p]; k++) {
                x.local(p, k);
            }
        }
        for (int p = 0; p < 4; p++) {
            for (int index : Scene.outside(n[p] + 1)) {
                int[] c = new int[4];
                c[p] = index;
                check.due(index + " for " + p, x.cutState(c[0], c[1], c[2], c[3]), INVALID);
                System.arraycopy(n, 0, c, 0, 4);
                c[p] = index;
                check.due(index + " for " + p + ", the others at their ends", x.cutState(c[0], c[1], c[2], c[3]),
                        INVALID);
            }
        }
        check.due("all at their ends", x.cutState(2, 0, 6, 5), TRUE);
        check.due("invalid comes before inconsistent", Scene.crossing().cutState(2, -1, 0, 0), INVALID);
        check.due("invalid comes before inconsistent", Scene.crossing().cutState(0, 3, 0, 0), INVALID);
    }

    private static void inconsistentBeforeFalse(Check check) {
        CutLatticeDetect x = Scene.crossing();
        for (int[] bounds : new int[][] {{Scene.MIN, Scene.MAX}, {20, 20}, {1, 0}}) {
            x.setBounds(0, bounds[0], bounds[1]);
            check.due("(2, 0)", x.cutState(2, 0, 0, 0), INCONSISTENT);
            check.due("(0, 2)", x.cutState(0, 2, 0, 0), INCONSISTENT);
        }
    }

    private static void falseUnderTheCurrentPredicate(Check check) {
        CutLatticeDetect x = new CutLatticeDetect(2, 6);
        x.setInitial(0, 3);
        x.local(1, 4);
        check.due("default", x.cutState(0, 1, 0, 0), TRUE);
        x.setBounds(1, 5, 9);
        check.due("bounds", x.cutState(0, 1, 0, 0), FALSE);
        x.setPredicate(GE, 7);
        check.due("mode", x.cutState(0, 1, 0, 0), TRUE);
        x.setPredicate(GE, 8);
        check.due("threshold", x.cutState(0, 1, 0, 0), FALSE);
        x.setPredicate(LE, 8);
        check.due("mode", x.cutState(0, 1, 0, 0), TRUE);
        x.setInitial(0, 5);
        check.due("initial value", x.cutState(0, 1, 0, 0), FALSE);
        x.local(1, 3);
        check.due("event value", x.cutState(0, 2, 0, 0), TRUE);
        check.due("the event before", x.cutState(0, 1, 0, 0), FALSE);
    }

    private static void otherwiseTrue(Check check) {
        CutLatticeDetect x = Scene.full(4);
        check.due("initial", x.cutState(0, 0, 0, 0), TRUE);
        check.due("final", x.cutState(6, 6, 6, 6), TRUE);
        check.due("between", x.cutState(1, 2, 3, 4), TRUE);
    }

    private static void negativeIsInvalid(Check check) {
        for (int procs = 1; procs <= 4; procs++) {
            CutLatticeDetect x = Scene.full(procs);
            for (int negative : Scene.negatives()) {
                for (int p = 0; p < 4; p++) {
                    int[] c = {1, procs > 1 ? 1 : 0, procs > 2 ? 1 : 0, procs > 3 ? 1 : 0};
                    check.due("one event of each", x.cutState(c[0], c[1], c[2], c[3]), TRUE);
                    c[p] = negative;
                    check.due(negative + " for " + p, x.cutState(c[0], c[1], c[2], c[3]), INVALID);
                }
            }
        }
    }

    private static void cutStateChangesNothing(Check check) {
        dueUnchanged(check, "cutState(0, 0, 0, 0)", x -> x.cutState(0, 0, 0, 0));
        dueUnchanged(check, "cutState(1, 0, 0, 0)", x -> x.cutState(1, 0, 0, 0));
        dueUnchanged(check, "cutState(0, 1, 0, 0)", x -> x.cutState(0, 1, 0, 0));
        dueUnchanged(check, "cutState(3, 1, 1, 0)", x -> x.cutState(3, 1, 1, 0));
        dueUnchanged(check, "cutState(-1, 7, 8, 9)", x -> x.cutState(-1, 7, 8, 9));
    }

    private static int countByState(CutLatticeDetect x, int least) {
        int found = 0;
        for (int code = 0; code < 4096; code++) {
            found += x.cutState(code >> 9, (code >> 6) & 7, (code >> 3) & 7, code & 7) >= least ? 1 : 0;
        }
        return found;
    }

    private static void countsConsistentOnes(Check check) {
        check.due("crossing", Scene.crossing().countConsistent(), 7);
        // Process 0 four ways, 2 two ways; the receive of 1 takes away the cut in which 0 had no event.
        check.due("busy", Scene.busy().countConsistent(), (4 + 3) * 2);
        for (Supplier<CutLatticeDetect> scene : SCENES) {
            check.due("as cutState tells", scene.get().countConsistent(), countByState(scene.get(), FALSE));
        }
    }

    private static void countsAllIndices(Check check) {
        for (int procs = 1; procs <= 4; procs++) {
            int all = 1;
            CutLatticeDetect x = new CutLatticeDetect(procs, 6);
            for (int p = 0; p < procs; p++) {
                for (int k = 1; k <= 6; k++) {
                    x.local(p, k);
                    check.due(k + " events of " + p, x.countConsistent(), all * (k + 1));
                }
                all *= 7;
            }
        }
    }

    private static void countsBothEnds(Check check) {
        for (int procs = 1; procs <= 4; procs++) {
            CutLatticeDetect x = new CutLatticeDetect(procs, 6);
            check.due("they coincide", x.countConsistent(), 1);
            x.local(procs - 1, 1);
            check.due("both of them", x.countConsistent(), 2);
        }
        CutLatticeDetect chain = new CutLatticeDetect(2, 6);
        chain.send(1, 1);
        chain.receive(0, 0, 1);
        check.due("initial, final and one between", chain.countConsistent(), 3);
    }

    private static void countConsistentChangesNothing(Check check) {
        dueUnchanged(check, "countConsistent()", x -> x.countConsistent());
    }

    private static void countsSatisfyingOnes(Check check) {
        check.due("by bounds", Scene.busy().countSatisfying(), 2);
        check.due("by sum", Scene.busyBySum().countSatisfying(), 6);
        check.due("none", Scene.withEmptyPath().countSatisfying(), 0);
        check.due("the only one", Scene.withInitialWitness().countSatisfying(), 1);
        for (Supplier<CutLatticeDetect> scene : SCENES) {
            check.due("as cutState tells", scene.get().countSatisfying(), countByState(scene.get(), TRUE));
        }
        CutLatticeDetect x = Scene.crossing();
        x.setPredicate(LE, 200);
        check.due("(0, 2), of sum 200, is inconsistent", x.countSatisfying(), 5);
    }

    private static void neverLarger(Check check) {
        for (Supplier<CutLatticeDetect> scene : SCENES) {
            CutLatticeDetect x = scene.get();
            x.setPredicate(GE, Scene.MIN);
            check.due("every sum is at least MIN", x.countSatisfying(), x.countConsistent());
            x.setPredicate(LE, Scene.MAX);
            check.due("every sum is at most MAX", x.countSatisfying(), x.countConsistent());
        }
        CutLatticeDetect x = Scene.crossing();
        check.due("by default", x.countSatisfying(), 7);
        check.due("countConsistent()", x.countConsistent(), 7);
    }

    private static void countSatisfyingChangesNothing(Check check) {
        dueUnchanged(check, "countSatisfying()", x -> x.countSatisfying());
    }
}
