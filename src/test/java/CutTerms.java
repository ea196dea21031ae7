/** Sentences of "Terms used below" about cuts and the predicate. */
final class CutTerms {
    private static final int CONJ = CutLatticeDetect.MODE_CONJ;
    private static final int GE = CutLatticeDetect.MODE_SUM_GE;
    private static final int LE = CutLatticeDetect.MODE_SUM_LE;
    private static final int INVALID = CutLatticeDetect.CUT_INVALID;
    private static final int INCONSISTENT = CutLatticeDetect.CUT_INCONSISTENT;
    private static final int FALSE = CutLatticeDetect.CUT_FALSE;
    private static final int TRUE = CutLatticeDetect.CUT_TRUE;

    private CutTerms() {
    }

    static void testAll(Sentences s) {
        s.in("Terms used below");
        s.test("A cut is an index vector c = (c_0 .. c_{P-1}) with 0 <= c_p <= n_p", CutTerms::indicesFromZeroToN);
        s.test("The level of a cut is the sum of its components.", CutTerms::levelIsTheSum);
        s.test("A cut is consistent iff, for every p with c_p >= 1 and every q < P, V(p,c_p)[q] <= c_q.",
                CutTerms::consistentUpToEquality);
        s.test("The initial cut (all 0)", CutTerms::initialIsConsistent);
        s.test("and the final cut (c_p = n_p for all p) are always consistent.", CutTerms::finalIsConsistent);
        s.test("In cut c, x_p has the value init_p if c_p = 0", CutTerms::initialValueAtZero);
        s.test("otherwise it has the value given by event c_p of p.", CutTerms::valueOfTheLastEvent);
        s.test("`MODE_CONJ` (the default)", CutTerms::conjIsTheDefault);
        s.test("a cut satisfies it iff lo_p <= x_p <= hi_p for every p < P.", CutTerms::boundsAreInclusive);
        s.test("The bounds are set by `setBounds`.", CutTerms::setBoundsSetsThem);
        s.test("By default lo_p = -2147483648 and hi_p = 2147483647, so every cut satisfies it.",
                CutTerms::defaultBoundsTakeAll);
        s.test("`MODE_SUM_GE`: a cut satisfies it iff S >= t.", CutTerms::sumAtLeast);
        s.test("`MODE_SUM_LE`: a cut satisfies it iff S <= t.", CutTerms::sumAtMost);
        s.test("S is the sum of x_p over p < P", CutTerms::sumOfAllProcesses);
        s.test("computed exactly as a 64-bit long with no wrap-around.", CutTerms::sumDoesNotWrap);
        s.test("In the sum modes the bounds are kept but ignored.", CutTerms::sumModesIgnoreBounds);
    }

    private static void indicesFromZeroToN(Check check) {
        CutLatticeDetect x = new CutLatticeDetect(4, 6);
        int[] n = {6, 3, 0, 1};
        for (int p = 0; p < 4; p++) {
            for (int k = 1; k <= n[p]; k++) {
                x.local(p, k);
            }
        }
        for (int p = 0; p < 4; p++) {
            for (int index = -2; index <= 8; index++) {
                int[] c = new int[4];
                c[p] = index;
                check.due(index + " for " + p, x.cutState(c[0], c[1], c[2], c[3]),
                        index >= 0 && index <= n[p] ? TRUE : INVALID);
            }
        }
    }

    private static void levelIsTheSum(Check check) {
        CutLatticeDetect x = Scene.full(4);
        // Event k has the value k here, so a cut's sum is its level.
        x.setPredicate(GE, 7);
        x.possibly();
        check.dueWitness("level 7", x, 0, 0, 1, 6);
        CutLatticeDetect y = new CutLatticeDetect(4, 6);
        for (int k = 1; k <= 5; k++) {
            y.local(3, k == 5 ? 9 : 0);
        }
        y.local(0, 3);
        y.local(1, 3);
        y.local(2, 3);
        y.local(2, 3);
        y.setPredicate(GE, 9);
        y.possibly();
        check.dueWitness("three of level 1 against one of level 5", y, 1, 1, 1, 0);
        CutLatticeDetect z = new CutLatticeDetect(2, 6);
        for (int k = 1; k <= 3; k++) {
            z.local(0, k);
            z.local(1, k == 2 ? 3 : 0);
        }
        z.setPredicate(GE, 3);
        z.possibly();
        check.dueWitness("level 2 against level 3", z, 0, 2);
    }

    private static void consistentUpToEquality(Check check) {
        CutLatticeDetect x = new CutLatticeDetect(4, 6);
        x.local(3, 1);
        x.send(3, 1);
        x.local(3, 1);
        x.local(1, 1);
        x.receive(1, 0, 1);
        // V(1,2) is (0, 2, 0, 2).
        check.due("one short", x.cutState(0, 2, 0, 1), INCONSISTENT);
        check.due("two short", x.cutState(0, 2, 0, 0), INCONSISTENT);
        check.due("equal", x.cutState(0, 2, 0, 2), TRUE);
        check.due("one more", x.cutState(0, 2, 0, 3), TRUE);
        check.due("before the receive", x.cutState(0, 1, 0, 0), TRUE);
        check.due("index 0 asks nothing", x.cutState(0, 0, 0, 0), TRUE);
        check.due("the sender alone", x.cutState(0, 0, 0, 3), TRUE);
        for (int sender = 0; sender < 4; sender++) {
            for (int receiver = 0; receiver < 4; receiver++) {
                if (sender != receiver) {
                    dueOrdered(check, sender, receiver);
                }
            }
        }
    }

    private static void dueOrdered(Check check, int sender, int receiver) {
        CutLatticeDetect x = new CutLatticeDetect(4, 6);
        x.send(sender, 1);
        x.receive(receiver, 0, 1);
        int[] c = new int[4];
        c[receiver] = 1;
        check.due(receiver + " before " + sender, x.cutState(c[0], c[1], c[2], c[3]), INCONSISTENT);
        c[sender] = 1;
        check.due(receiver + " and " + sender, x.cutState(c[0], c[1], c[2], c[3]), TRUE);
        c[receiver] = 0;
        check.due(sender + " alone", x.cutState(c[0], c[1], c[2], c[3]), TRUE);
    }

    private static boolean initialHolds(CutLatticeDetect x) {
        return x.cutState(0, 0, 0, 0) == TRUE;
    }

    private static boolean finalHolds(CutLatticeDetect x) {
        return x.cutState(Math.max(0, x.eventCount(0)), Math.max(0, x.eventCount(1)), Math.max(0, x.eventCount(2)),
                Math.max(0, x.eventCount(3))) == TRUE;
    }

    /** Events of all kinds, as many as fit, in an order that depends on the number. */
    private static CutLatticeDetect mixed(int number, int calls) {
        CutLatticeDetect x = new CutLatticeDetect(1 + number % 4, 6);
        for (int i = 0; i < calls; i++) {
            int p = (i * (1 + number % 3) + i / 4) % 4;
            if ((i + number) % 3 == 0) {
                x.local(p, i);
            } else if ((i + number) % 2 == 0) {
                x.send(p, i);
            }
            x.receive((p + number) % 4, i / 3, i);
        }
        return x;
    }

    private static void initialIsConsistent(Check check) {
        for (int number = 0; number < 24; number++) {
            for (int calls = 0; calls <= 36; calls++) {
                check.due("run " + number + " after " + calls, initialHolds(mixed(number, calls)), true);
            }
        }
    }

    private static void finalIsConsistent(Check check) {
        for (int number = 0; number < 24; number++) {
            for (int calls = 0; calls <= 36; calls++) {
                check.due("run " + number + " after " + calls, finalHolds(mixed(number, calls)), true);
            }
        }
        check.due("all processes full", finalHolds(Scene.full(4)), true);
    }

    private static void initialValueAtZero(Check check) {
        for (int p = 0; p < 4; p++) {
            for (int value : Scene.VALUES) {
                CutLatticeDetect x = new CutLatticeDetect(4, 6);
                x.setInitial(p, value);
                check.due("without events", Scene.hasValue(x, p, 0, value), true);
                x.local(p, 5);
                x.local((p + 1) % 4, 6);
                check.due("with events", Scene.hasValue(x, p, 0, value), true);
                check.due("another process's", Scene.hasValue(x, (p + 1) % 4, 0, 0), true);
            }
        }
    }

    private static void valueOfTheLastEvent(Check check) {
        for (int p = 0; p < 4; p++) {
            CutLatticeDetect x = new CutLatticeDetect(4, 6);
            x.setInitial(p, 50);
            for (int k = 1; k <= 6; k++) {
                x.local(p, 50 + k);
            }
            for (int k = 0; k <= 6; k++) {
                for (int value = 49; value <= 57; value++) {
                    check.due(value + " after " + k + " events of " + p, Scene.hasValue(x, p, k, value),
                            value == 50 + k);
                }
            }
        }
    }

    private static void conjIsTheDefault(Check check) {
        for (int value : Scene.VALUES) {
            CutLatticeDetect x = new CutLatticeDetect(1, 6);
            x.setInitial(0, value);
            check.due("by default " + value, initialHolds(x), true);
            x.setBounds(0, 2, 3);
            check.due("the bounds are in force", initialHolds(x), false);
        }
    }

    private static void boundsAreInclusive(Check check) {
        for (int p = 0; p < 4; p++) {
            for (int lo : Scene.VALUES) {
                for (int hi : Scene.VALUES) {
                    CutLatticeDetect x = new CutLatticeDetect(4, 6);
                    x.setBounds(p, lo, hi);
                    for (int value : Scene.VALUES) {
                        x.setInitial(p, value);
                        check.due(value + " in " + lo + ".." + hi, initialHolds(x), lo <= value && value <= hi);
                    }
                }
            }
        }
        for (int value = 3; value <= 9; value++) {
            CutLatticeDetect x = new CutLatticeDetect(1, 6);
            x.setBounds(0, 4, 8);
            x.local(0, value);
            check.due(value + " in 4..8", x.cutState(1, 0, 0, 0), value >= 4 && value <= 8 ? TRUE : FALSE);
        }
    }

    private static void setBoundsSetsThem(Check check) {
        CutLatticeDetect x = new CutLatticeDetect(2, 6);
        x.setBounds(1, 1, 5);
        check.due("0 in 1..5", initialHolds(x), false);
        x.setBounds(1, 0, 5);
        check.due("0 in 0..5", initialHolds(x), true);
        x.setBounds(1, -5, -1);
        check.due("0 in -5..-1", initialHolds(x), false);
    }

    private static void defaultBoundsTakeAll(Check check) {
        for (int procs = 1; procs <= 4; procs++) {
            CutLatticeDetect x = new CutLatticeDetect(procs, 6);
            for (int p = 0; p < procs; p++) {
                x.setInitial(p, p % 2 == 0 ? Scene.MIN : Scene.MAX);
                x.local(p, Scene.MIN);
                x.local(p, Scene.MAX);
                x.local(p, 0);
            }
            check.due("all cuts of " + procs, x.countSatisfying(), 1 << (2 * procs));
        }
    }

    private static CutLatticeDetect withInitials(int... values) {
        CutLatticeDetect x = new CutLatticeDetect(values.length, 6);
        for (int p = 0; p < values.length; p++) {
            x.setInitial(p, values[p]);
        }
        return x;
    }

    private static void sumAtLeast(Check check) {
        CutLatticeDetect x = withInitials(3, 4, -2);
        for (int t : new int[] {Scene.MIN, -5, 0, 4, 5, 6, 7, Scene.MAX}) {
            x.setPredicate(GE, t);
            check.due("5 >= " + t, initialHolds(x), 5 >= t);
        }
    }

    private static void sumAtMost(Check check) {
        CutLatticeDetect x = withInitials(3, 4, -2);
        for (int t : new int[] {Scene.MIN, -5, 0, 4, 5, 6, 7, Scene.MAX}) {
            x.setPredicate(LE, t);
            check.due("5 <= " + t, initialHolds(x), 5 <= t);
        }
    }

    private static void sumOfAllProcesses(Check check) {
        for (int procs = 1; procs <= 4; procs++) {
            for (int p = 0; p < procs; p++) {
                CutLatticeDetect x = new CutLatticeDetect(procs, 6);
                x.local(p, 8);
                int[] c = new int[4];
                c[p] = 1;
                x.setPredicate(GE, 8);
                check.due("at least 8 by " + p, x.cutState(c[0], c[1], c[2], c[3]), TRUE);
                x.setPredicate(LE, 8);
                check.due("at most 8 by " + p, x.cutState(c[0], c[1], c[2], c[3]), TRUE);
                x.setPredicate(LE, 7);
                check.due("at most 7 by " + p, x.cutState(c[0], c[1], c[2], c[3]), FALSE);
            }
        }
    }

    private static void sumDoesNotWrap(Check check) {
        for (int a : Scene.VALUES) {
            for (int b : Scene.VALUES) {
                dueSums(check, withInitials(a, b), (long) a + b);
                for (int c : Scene.VALUES) {
                    dueSums(check, withInitials(a, b, c), (long) a + b + c);
                    for (int d : Scene.VALUES) {
                        dueSums(check, withInitials(a, b, c, d), (long) a + b + c + d);
                    }
                }
            }
        }
    }

    private static void dueSums(Check check, CutLatticeDetect x, long sum) {
        for (int t : Scene.VALUES) {
            x.setPredicate(GE, t);
            check.due(sum + " >= " + t, initialHolds(x), sum >= t);
            x.setPredicate(LE, t);
            check.due(sum + " <= " + t, initialHolds(x), sum <= t);
        }
    }

    private static void sumModesIgnoreBounds(Check check) {
        CutLatticeDetect x = withInitials(3, 4);
        x.setBounds(0, 1, 0);
        x.setBounds(1, 9, 9);
        x.setPredicate(GE, 7);
        check.due("7 >= 7", initialHolds(x), true);
        x.setPredicate(LE, 7);
        check.due("7 <= 7", initialHolds(x), true);
        x.setBounds(0, 3, 3);
        x.setPredicate(CONJ, 7);
        check.due("x_1 is not within its bounds", initialHolds(x), false);
        x.setPredicate(LE, 6);
        x.setBounds(1, 4, 4);
        check.due("7 <= 6 within the bounds", initialHolds(x), false);
        x.setPredicate(CONJ, 0);
        check.due("both within their bounds", initialHolds(x), true);
    }
}
