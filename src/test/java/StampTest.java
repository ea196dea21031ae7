/** Promise 9: stamp. */
public final class StampTest {
    private static final Check check = new Check("StampTest");

    public static void main(String[] args) {
        tellsTheTimestamps();
        neverChangesThem();
        answersForUnknownEvents();
        changesNothing();
        check.end();
    }

    private static void tellsTheTimestamps() {
        CutLatticeDetect x = Scene.crossing();
        int[][] want = {{1, 0}, {2, 1}, {0, 1}, {1, 2}};
        for (int p = 0; p < 2; p++) {
            for (int k = 1; k <= 2; k++) {
                for (int q = 0; q < 2; q++) {
                    check.due("stamp(" + p + ", " + k + ", " + q + ")", x.stamp(p, k, q), want[p * 2 + k - 1][q]);
                }
            }
        }
    }

    private static void neverChangesThem() {
        CutLatticeDetect x = Scene.crossing();
        x.send(0, 1);
        x.receive(1, 2, 1);
        x.local(1, 1);
        x.setPredicate(CutLatticeDetect.MODE_SUM_GE, 3);
        x.possibly();
        x.definitely();
        check.due("stamp(0, 1, 1)", x.stamp(0, 1, 1), 0);
        check.due("stamp(0, 2, 1)", x.stamp(0, 2, 1), 1);
        check.due("stamp(1, 1, 0)", x.stamp(1, 1, 0), 0);
        check.due("stamp(1, 2, 0)", x.stamp(1, 2, 0), 1);
        check.due("stamp(1, 3, 0)", x.stamp(1, 3, 0), 3);
        check.due("stamp(1, 4, 0)", x.stamp(1, 4, 0), 3);
        for (int k = 1; k <= 4; k++) {
            check.due("stamp(1, " + k + ", 1)", x.stamp(1, k, 1), k);
        }
    }

    private static void answersForUnknownEvents() {
        CutLatticeDetect x = Scene.crossing();
        int[] noEvent = {Integer.MIN_VALUE, -1, 0, 3, 6, 7, 8, 100, Integer.MAX_VALUE};
        for (int p = 0; p < 2; p++) {
            for (int k : noEvent) {
                check.due("stamp(" + p + ", " + k + ", 0)", x.stamp(p, k, 0), -1);
                check.due("stamp(" + p + ", " + k + ", 1)", x.stamp(p, k, 1), -1);
            }
            for (int no : Scene.outside(2)) {
                check.due("stamp(" + p + ", 1, " + no + ")", x.stamp(p, 1, no), -1);
                check.due("stamp(" + no + ", 1, " + p + ")", x.stamp(no, 1, p), -1);
            }
        }
        CutLatticeDetect wide = new CutLatticeDetect(4, 6);
        for (int k = 1; k <= 6; k++) {
            wide.local(3, k);
            check.due("stamp(3, k, 3)", wide.stamp(3, k, 3), k);
            check.due("stamp(3, k + 1, 3)", wide.stamp(3, k + 1, 3), -1);
        }
        for (int no : Scene.outside(4)) {
            check.due("stamp(3, 6, " + no + ")", wide.stamp(3, 6, no), -1);
            check.due("stamp(" + no + ", 6, 3)", wide.stamp(no, 6, 3), -1);
        }
    }

    private static void changesNothing() {
        CutLatticeDetect x = Scene.withResults();
        x.stamp(0, 1, 0);
        x.stamp(1, 5, 9);
        check.dueWitness("after stamp", x, 1, 0, 0);
        check.duePath("after stamp", x, 1, 0);
        check.due("eventCount(0) after stamp", x.eventCount(0), 1);
    }
}
