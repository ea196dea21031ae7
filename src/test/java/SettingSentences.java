import java.util.List;
import java.util.function.Supplier;

/** Sentences of promises 1 to 4: the constructor, setInitial, setBounds and setPredicate. */
final class SettingSentences {
    private static final int CONJ = CutLatticeDetect.MODE_CONJ;
    private static final int GE = CutLatticeDetect.MODE_SUM_GE;
    private static final int LE = CutLatticeDetect.MODE_SUM_LE;
    private static final int FALSE = CutLatticeDetect.CUT_FALSE;
    private static final int TRUE = CutLatticeDetect.CUT_TRUE;
    private static final List<Supplier<CutLatticeDetect>> SCENES = List.of(Scene::busy, Scene::busyBySum);
    private static final int[] FAR = {Scene.MIN, -1, 4, 5, Scene.MAX};

    private SettingSentences() {
    }

    static void testAll(Sentences s) {
        testConstruction(s);
        testSetInitial(s);
        testSetBounds(s);
        testSetPredicate(s);
    }

    private static void testConstruction(Sentences s) {
        s.in("Promise 1");
        s.test("makes a monitor with no events and no messages.", SettingSentences::startsEmpty);
        s.test("any value below 1 becomes 1", SettingSentences::procsBelowOne);
        s.test("any value above 4 becomes 4", SettingSentences::procsAboveFour);
        s.test("values in 1..4 are kept.", SettingSentences::procsKept);
        s.test("This holds for every int, including Integer.MIN_VALUE and Integer.MAX_VALUE.",
                SettingSentences::procsOfAnyInt);
        s.test("E = maxEvents clamped into 1..6 the same way", SettingSentences::roomKept);
        s.test("below 1 becomes 1", SettingSentences::roomBelowOne);
        s.test("above 6 becomes 6.", SettingSentences::roomAboveSix);
        s.test("For every p < P: n_p = 0", SettingSentences::countsStartAtZero);
        s.test("init_p = 0", SettingSentences::initialsStartAtZero);
        s.test("lo_p = -2147483648", SettingSentences::lowsStartLeast);
        s.test("hi_p = 2147483647.", SettingSentences::highsStartGreatest);
        s.test("The mode is `MODE_CONJ`", SettingSentences::startsByBounds);
        s.test("No messages have been sent or received.", SettingSentences::noMessageAtFirst);
        s.test("There is no witness and no recorded path.", SettingSentences::noResultAtFirst);
        s.test("P and E never change afterwards.", SettingSentences::procsAndRoomStay);
    }

    private static void testSetInitial(Sentences s) {
        s.in("Promise 2");
        s.test("`setInitial(p, value)` sets init_p = value.", SettingSentences::setsTheInitial);
        s.test("Refused, answering false, if p is not in 0..P-1", SettingSentences::initialOfNoProcess);
        s.test("or else if n_p >= 1 (process p has already reported an event).", SettingSentences::initialTooLate);
        s.test("Otherwise answers true, sets init_p = value (any int)", SettingSentences::initialOfAnyInt);
        s.test("and sets the witness and the recorded path to none.", SettingSentences::initialForgets);
        s.test("Nothing else changes.", SettingSentences::initialAlone);
    }

    private static void testSetBounds(Sentences s) {
        s.in("Promise 3");
        s.test("`setBounds(p, lo, hi)` sets lo_p = lo and hi_p = hi.", SettingSentences::setsBothBounds);
        s.test("Refused, answering false, if p is not in 0..P-1.", SettingSentences::boundsOfNoProcess);
        s.test("Otherwise answers true, stores both bounds, and sets the witness and the recorded path to none.",
                SettingSentences::boundsForget);
        s.test("Any int values are accepted.", SettingSentences::boundsOfAnyInts);
        s.test("lo > hi is allowed; then no cut satisfies the predicate in `MODE_CONJ`.", SettingSentences::noRange);
        s.test("The bounds are kept when the mode is a sum mode, and take effect again whenever the mode is"
                + " `MODE_CONJ`.", SettingSentences::boundsOutliveSumModes);
        s.test("Nothing else changes.", SettingSentences::boundsAlone);
    }

    private static void testSetPredicate(Sentences s) {
        s.in("Promise 4");
        s.test("`setPredicate(mode, threshold)` sets the mode to mode and t = threshold.",
                SettingSentences::setsModeAndThreshold);
        s.test("Refused, answering false, if mode is not `MODE_CONJ`, `MODE_SUM_GE` or `MODE_SUM_LE`.",
                SettingSentences::noSuchMode);
        s.test("Otherwise answers true, stores the mode and t = threshold (any int)",
                SettingSentences::thresholdOfAnyInt);
        s.test("and sets the witness and the recorded path to none, even if the mode and threshold are unchanged.",
                SettingSentences::predicateForgets);
        s.test("The bounds are not changed.", SettingSentences::predicateKeepsBounds);
    }

    private static int procsOf(int wanted) {
        CutLatticeDetect x = new CutLatticeDetect(wanted, 1);
        int procs = 0;
        for (int p = -2; p <= 9; p++) {
            procs += x.eventCount(p) == 0 && x.local(p, 1) == 1 ? 1 : 0;
        }
        return procs;
    }

    private static int roomOf(int procs, int wanted) {
        CutLatticeDetect x = new CutLatticeDetect(procs, wanted);
        int room = 0;
        for (int k = 1; k <= 12; k++) {
            room += x.local(procs - 1, k) == k ? 1 : 0;
        }
        return room;
    }

    private static void startsEmpty(Check check) {
        for (int procs = 1; procs <= 4; procs++) {
            CutLatticeDetect x = new CutLatticeDetect(procs, 6);
            for (int p = 0; p < procs; p++) {
                check.due("eventCount(" + p + ")", x.eventCount(p), 0);
                check.due("stamp(" + p + ", 1, " + p + ")", x.stamp(p, 1, p), -1);
                check.due("receive(" + p + ", 0, 1)", x.receive(p, 0, 1), -1);
            }
            check.due("countConsistent()", x.countConsistent(), 1);
            check.due("the first message's id", x.send(0, 1), 0);
        }
    }

    private static void procsBelowOne(Check check) {
        for (int wanted : new int[] {0, -1, -2, -3, -4, -100, -65535}) {
            check.due("P of " + wanted, procsOf(wanted), 1);
        }
    }

    private static void procsAboveFour(Check check) {
        for (int wanted : new int[] {5, 6, 7, 8, 9, 16, 17, 100, 65537}) {
            check.due("P of " + wanted, procsOf(wanted), 4);
        }
    }

    private static void procsKept(Check check) {
        for (int wanted = 1; wanted <= 4; wanted++) {
            check.due("P of " + wanted, procsOf(wanted), wanted);
        }
    }

    private static void procsOfAnyInt(Check check) {
        for (int wanted : Scene.outside(5)) {
            check.due("P of " + wanted, procsOf(wanted), wanted < 0 ? 1 : 4);
        }
        check.due("P of MIN", procsOf(Scene.MIN), 1);
        check.due("P of MAX", procsOf(Scene.MAX), 4);
    }

    private static void roomKept(Check check) {
        for (int procs = 1; procs <= 4; procs++) {
            for (int wanted = 1; wanted <= 6; wanted++) {
                check.due("E of " + wanted, roomOf(procs, wanted), wanted);
            }
        }
    }

    private static void roomBelowOne(Check check) {
        for (int wanted : new int[] {0, -1, -2, -6, -7, -100, Scene.MIN + 1, Scene.MIN}) {
            check.due("E of " + wanted, roomOf(2, wanted), 1);
        }
    }

    private static void roomAboveSix(Check check) {
        for (int wanted : Scene.outside(7)) {
            check.due("E of " + wanted, roomOf(2, wanted), wanted < 0 ? 1 : 6);
        }
        check.due("E of MAX", roomOf(4, Scene.MAX), 6);
    }

    private static void countsStartAtZero(Check check) {
        for (int procs = 1; procs <= 4; procs++) {
            CutLatticeDetect x = new CutLatticeDetect(procs, 6);
            for (int p = 0; p < 4; p++) {
                check.due("eventCount(" + p + ") of " + procs, x.eventCount(p), p < procs ? 0 : -1);
            }
        }
    }

    private static void initialsStartAtZero(Check check) {
        for (int procs = 1; procs <= 4; procs++) {
            for (int p = 0; p < procs; p++) {
                CutLatticeDetect x = new CutLatticeDetect(procs, 6);
                x.setBounds(p, 0, 0);
                check.due("x_" + p + " is 0", x.cutState(0, 0, 0, 0), TRUE);
                x.setBounds(p, 1, Scene.MAX);
                check.due("x_" + p + " is not above 0", x.cutState(0, 0, 0, 0), FALSE);
                x.setBounds(p, Scene.MIN, -1);
                check.due("x_" + p + " is not below 0", x.cutState(0, 0, 0, 0), FALSE);
            }
        }
    }

    private static void dueInDefaultBounds(Check check, int value) {
        for (int procs = 1; procs <= 4; procs++) {
            for (int p = 0; p < procs; p++) {
                CutLatticeDetect x = new CutLatticeDetect(procs, 6);
                x.setInitial(p, value);
                check.due(value + " of " + p, x.cutState(0, 0, 0, 0), TRUE);
            }
        }
    }

    private static void lowsStartLeast(Check check) {
        dueInDefaultBounds(check, Scene.MIN);
        dueInDefaultBounds(check, Scene.MIN + 1);
    }

    private static void highsStartGreatest(Check check) {
        dueInDefaultBounds(check, Scene.MAX);
        dueInDefaultBounds(check, Scene.MAX - 1);
    }

    private static void startsByBounds(Check check) {
        for (int value : Scene.VALUES) {
            CutLatticeDetect x = new CutLatticeDetect(2, 6);
            x.setInitial(0, value);
            check.due("a sum of " + value, x.countSatisfying(), 1);
            x.setBounds(0, 5, 6);
            check.due("out of the bounds", x.countSatisfying(), 0);
        }
    }

    private static void noMessageAtFirst(Check check) {
        for (int msg = -1; msg <= 16; msg++) {
            for (int p = 0; p < 4; p++) {
                CutLatticeDetect x = new CutLatticeDetect(4, 6);
                check.due("receive(" + p + ", " + msg + ", 1)", x.receive(p, msg, 1), -1);
            }
        }
        for (int m = 0; m < 16; m++) {
            int other = (m / 5 + 1) % 4;
            check.due("message " + m + " counts as not received", Scene.allSent().receive(other, m, 1) > 0, true);
        }
    }

    private static void noResultAtFirst(Check check) {
        for (int procs = 1; procs <= 4; procs++) {
            CutLatticeDetect x = new CutLatticeDetect(procs, procs);
            check.dueNoWitness("of " + procs, x);
            check.dueNoPath("of " + procs, x);
        }
    }

    private static void procsAndRoomStay(Check check) {
        for (int procs = 1; procs <= 4; procs++) {
            for (int room = 1; room <= 6; room++) {
                CutLatticeDetect x = new CutLatticeDetect(procs, room);
                new CutLatticeDetect(5 - procs, 7 - room);
                for (int i = 0; i < 9; i++) {
                    for (int p = -1; p <= 4; p++) {
                        x.setBounds(p, i % 2, 9);
                        x.setPredicate(i % 3, i - 4);
                        x.possibly();
                        x.definitely();
                        x.local(p, i);
                    }
                }
                for (int p = -1; p <= 4; p++) {
                    check.due("eventCount(" + p + ")", x.eventCount(p), p >= 0 && p < procs ? room : -1);
                }
            }
        }
    }

    private static void setsTheInitial(Check check) {
        CutLatticeDetect x = new CutLatticeDetect(2, 6);
        for (int value : new int[] {4, -4, 0, 4}) {
            check.due("setInitial(1, " + value + ")", x.setInitial(1, value), true);
            check.due("x_1 is " + value, Scene.hasValue(x, 1, 0, value), true);
            check.due("x_1 is not " + (value + 1), Scene.hasValue(x, 1, 0, value + 1), false);
        }
    }

    private static void initialOfNoProcess(Check check) {
        for (int procs = 1; procs <= 4; procs++) {
            CutLatticeDetect x = new CutLatticeDetect(procs, 6);
            for (int p : Scene.outside(procs)) {
                check.due("setInitial(" + p + ", 5) of " + procs, x.setInitial(p, 5), false);
            }
            for (int p = 0; p < procs; p++) {
                check.due("x_" + p + " is still 0", Scene.hasValue(x, p, 0, 0), true);
                check.due("setInitial(" + p + ", 5)", x.setInitial(p, 5), true);
            }
        }
        for (Supplier<CutLatticeDetect> scene : SCENES) {
            for (int p : FAR) {
                Unchanged.dueByRefused(check, scene, "setInitial(" + p + ", 9)", x -> x.setInitial(p, 9), false);
            }
        }
    }

    private static void initialTooLate(Check check) {
        for (Supplier<CutLatticeDetect> scene : SCENES) {
            Unchanged.dueByRefused(check, scene, "setInitial(0, 9), full", x -> x.setInitial(0, 9), false);
            Unchanged.dueByRefused(check, scene, "setInitial(1, 9), a receive", x -> x.setInitial(1, 9), false);
            Unchanged.dueByRefused(check, scene, "setInitial(2, 9), a send", x -> x.setInitial(2, 9), false);
            check.due("setInitial(3, 9), no event", scene.get().setInitial(3, 9), true);
        }
        CutLatticeDetect x = new CutLatticeDetect(2, 6);
        x.local(0, 1);
        check.due("after one local event", x.setInitial(0, 9), false);
        check.due("the other process", x.setInitial(1, 9), true);
        check.due("init_0 is still 0", Scene.hasValue(x, 0, 0, 0), true);
        check.due("event 1 of 0 is still 1", Scene.hasValue(x, 0, 1, 1), true);
    }

    private static void initialOfAnyInt(Check check) {
        for (int procs = 1; procs <= 4; procs++) {
            for (int value : Scene.VALUES) {
                CutLatticeDetect x = new CutLatticeDetect(procs, 6);
                check.due("setInitial(P-1, " + value + ")", x.setInitial(procs - 1, value), true);
                check.due("the value", Scene.hasValue(x, procs - 1, 0, value), true);
            }
        }
    }

    private static void initialForgets(Check check) {
        for (int value : new int[] {4, 5, Scene.MIN}) {
            CutLatticeDetect x = Scene.busy();
            x.setInitial(3, value);
            check.dueNoWitness("after setInitial(3, " + value + ")", x);
            check.dueNoPath("after setInitial(3, " + value + ")", x);
        }
        CutLatticeDetect x = Scene.withEmptyPath();
        x.setInitial(2, 0);
        check.dueNoPath("the empty one", x);
    }

    private static void initialAlone(Check check) {
        for (Supplier<CutLatticeDetect> scene : SCENES) {
            Unchanged.dueSameState(check, scene, "setInitial there and back",
                    x -> x.setInitial(3, 100) && x.setInitial(3, 4));
        }
    }

    private static void setsBothBounds(Check check) {
        for (int p = 0; p < 3; p++) {
            CutLatticeDetect x = new CutLatticeDetect(3, 6);
            check.due("setBounds(" + p + ", 3, 5)", x.setBounds(p, 3, 5), true);
            for (int value = 1; value <= 7; value++) {
                x.setInitial(p, value);
                check.due(value + " in 3..5", x.cutState(0, 0, 0, 0), value >= 3 && value <= 5 ? TRUE : FALSE);
            }
        }
    }

    private static void boundsOfNoProcess(Check check) {
        for (int procs = 1; procs <= 4; procs++) {
            CutLatticeDetect x = new CutLatticeDetect(procs, 6);
            for (int p : Scene.outside(procs)) {
                check.due("setBounds(" + p + ", 5, 6) of " + procs, x.setBounds(p, 5, 6), false);
                check.due("the initial cut then", x.cutState(0, 0, 0, 0), TRUE);
            }
            for (int p = 0; p < procs; p++) {
                check.due("setBounds(" + p + ", 0, 6)", x.setBounds(p, 0, 6), true);
            }
        }
        for (Supplier<CutLatticeDetect> scene : SCENES) {
            for (int p : FAR) {
                Unchanged.dueByRefused(check, scene, "setBounds(" + p + ", 9, 9)", x -> x.setBounds(p, 9, 9), false);
            }
        }
    }

    private static void boundsForget(Check check) {
        for (Supplier<CutLatticeDetect> scene : SCENES) {
            for (int p = 0; p < 4; p++) {
                CutLatticeDetect x = scene.get();
                check.due("setBounds(" + p + ", 1, 2)", x.setBounds(p, 1, 2), true);
                check.dueNoWitness("after setBounds", x);
                check.dueNoPath("after setBounds", x);
            }
        }
        CutLatticeDetect x = Scene.withEmptyPath();
        check.due("the same bounds again", x.setBounds(0, 1, 1), true);
        check.dueNoPath("the empty one", x);
    }

    private static void boundsOfAnyInts(Check check) {
        for (int lo : Scene.VALUES) {
            for (int hi : Scene.VALUES) {
                CutLatticeDetect x = new CutLatticeDetect(1, 6);
                check.due("setBounds(0, " + lo + ", " + hi + ")", x.setBounds(0, lo, hi), true);
                for (int value : Scene.VALUES) {
                    x.setInitial(0, value);
                    check.due(value + " in " + lo + ".." + hi, x.countSatisfying(), lo <= value && value <= hi ? 1 : 0);
                }
            }
        }
    }

    private static void noRange(Check check) {
        int[][] ranges = {{1, 0}, {5, 4}, {-4, -5}, {Scene.MAX, Scene.MIN}, {Scene.MAX, Scene.MAX - 1},
            {Scene.MIN + 1, Scene.MIN}, {0, Scene.MIN}, {Scene.MAX, 0}};
        for (int p = 0; p < 4; p++) {
            for (int[] range : ranges) {
                CutLatticeDetect x = new CutLatticeDetect(4, 6);
                for (int value : new int[] {range[0], range[1], 0, 4, 5}) {
                    x.local(p, value);
                }
                check.due("setBounds with lo > hi", x.setBounds(p, range[0], range[1]), true);
                check.due("countSatisfying()", x.countSatisfying(), 0);
                check.due("possibly()", x.possibly(), false);
                check.due("countConsistent()", x.countConsistent(), 6);
            }
        }
    }

    private static void boundsOutliveSumModes(Check check) {
        for (int mode : new int[] {GE, LE}) {
            CutLatticeDetect x = Scene.busyWithoutResults();
            int before = x.countSatisfying();
            x.setPredicate(mode, 0);
            x.countSatisfying();
            x.setPredicate(CONJ, 0);
            check.due("bounds set before the sum mode", x.countSatisfying(), before);
            x.setPredicate(mode, 0);
            x.setBounds(0, 2, 2);
            x.setPredicate(CONJ, 0);
            check.due("bounds set in the sum mode", x.countSatisfying(), 1);
            x.setPredicate(mode, 0);
            x.setPredicate(3 - mode, 0);
            x.setPredicate(CONJ, 0);
            check.due("and again", x.countSatisfying(), 1);
        }
    }

    private static void boundsAlone(Check check) {
        for (Supplier<CutLatticeDetect> scene : SCENES) {
            Unchanged.dueSameState(check, scene, "setBounds there and back",
                    x -> x.setBounds(0, 100, -100) && x.setBounds(0, 1, 2));
        }
        for (int p = 0; p < 4; p++) {
            for (int other = 0; other < 4; other++) {
                CutLatticeDetect x = new CutLatticeDetect(4, 6);
                x.setBounds(other, 1, 1);
                x.setBounds(p, 0, 0);
                check.due("bounds of " + p + " after those of " + other, x.countSatisfying(), p == other ? 1 : 0);
            }
        }
    }

    private static void setsModeAndThreshold(Check check) {
        CutLatticeDetect x = new CutLatticeDetect(1, 6);
        x.setInitial(0, 5);
        x.setBounds(0, 6, 6);
        int[][] due = {{CONJ, 5, FALSE}, {GE, 5, TRUE}, {GE, 6, FALSE}, {LE, 5, TRUE}, {LE, 4, FALSE}, {LE, 6, TRUE},
            {GE, 4, TRUE}, {CONJ, 4, FALSE}};
        for (int[] row : due) {
            check.due("setPredicate(" + row[0] + ", " + row[1] + ")", x.setPredicate(row[0], row[1]), true);
            check.due("the cut then", x.cutState(0, 0, 0, 0), row[2]);
        }
    }

    private static void noSuchMode(Check check) {
        for (int mode : Scene.outside(3)) {
            check.due("setPredicate(" + mode + ", 8)", new CutLatticeDetect(2, 2).setPredicate(mode, 8), false);
        }
        for (int mode : new int[] {Scene.MIN, -1, 3, 4, Scene.MAX}) {
            for (Supplier<CutLatticeDetect> scene : SCENES) {
                Unchanged.dueByRefused(check, scene, "setPredicate(" + mode + ", 8)", x -> x.setPredicate(mode, 8),
                        false);
            }
        }
    }

    private static void thresholdOfAnyInt(Check check) {
        for (int t : Scene.VALUES) {
            for (int value : Scene.VALUES) {
                CutLatticeDetect x = new CutLatticeDetect(1, 6);
                x.setInitial(0, value);
                check.due("setPredicate(GE, " + t + ")", x.setPredicate(GE, t), true);
                check.due(value + " >= " + t, x.countSatisfying(), value >= t ? 1 : 0);
                check.due("setPredicate(LE, " + t + ")", x.setPredicate(LE, t), true);
                check.due(value + " <= " + t, x.countSatisfying(), value <= t ? 1 : 0);
                check.due("setPredicate(CONJ, " + t + ")", x.setPredicate(CONJ, t), true);
                check.due("by bounds", x.countSatisfying(), 1);
            }
        }
    }

    private static void predicateForgets(Check check) {
        CutLatticeDetect x = Scene.busyBySum();
        x.setPredicate(GE, 12);
        check.dueNoWitness("the same again", x);
        check.dueNoPath("the same again", x);
        CutLatticeDetect y = Scene.busyBySum();
        y.setPredicate(GE, 13);
        check.dueNoWitness("another threshold", y);
        check.dueNoPath("another threshold", y);
        CutLatticeDetect z = Scene.busy();
        z.setPredicate(CONJ, 0);
        check.dueNoWitness("the default again", z);
        check.dueNoPath("the default again", z);
        CutLatticeDetect empty = Scene.withEmptyPath();
        empty.setPredicate(CONJ, 0);
        check.dueNoPath("the empty one", empty);
    }

    private static void predicateKeepsBounds(Check check) {
        for (int mode : new int[] {CONJ, GE, LE}) {
            for (int t : Scene.VALUES) {
                CutLatticeDetect x = Scene.busyWithoutResults();
                x.setPredicate(mode, t);
                x.setPredicate(CONJ, t);
                check.due("countSatisfying()", x.countSatisfying(), 2);
                check.due("(1, 0, 0, 0)", x.cutState(1, 0, 0, 0), TRUE);
                check.due("(2, 0, 0, 0)", x.cutState(2, 0, 0, 0), TRUE);
            }
        }
    }
}
