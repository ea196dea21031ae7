/** Promise 15: pathLength and pathStep. */
public final class PathTest {
    private static final Check check = new Check("PathTest");

    public static void main(String[] args) {
        noneIsNotEmpty();
        stepsOutsideAreRefused();
        pathStays();
        shorterThanAnEarlierOne();
        check.end();
    }

    private static void noneIsNotEmpty() {
        CutLatticeDetect x = new CutLatticeDetect(2, 6);
        check.dueNoPath("at the start", x);
        x.possibly();
        check.dueNoPath("after possibly", x);
        x.setBounds(0, 1, 1);
        x.definitely();
        check.due("pathLength() of the empty path", x.pathLength(), 0);
        for (int i = -1; i <= 24; i++) {
            check.due("pathStep(" + i + ") of the empty path", x.pathStep(i), -1);
        }
    }

    private static void stepsOutsideAreRefused() {
        CutLatticeDetect x = Scene.withResults();
        int[] outside = {Integer.MIN_VALUE, -2, -1, 2, 3, 23, 24, 25, 4096, Integer.MAX_VALUE};
        check.due("pathLength()", x.pathLength(), 2);
        check.due("pathStep(0)", x.pathStep(0), 1);
        check.due("pathStep(1)", x.pathStep(1), 0);
        for (int i : outside) {
            check.due("pathStep(" + i + ")", x.pathStep(i), -1);
        }
        check.duePath("after asking", x, 1, 0);
        check.dueWitness("after asking", x, 1, 0, 0);
    }

    private static void pathStays() {
        CutLatticeDetect x = Scene.withResults();
        x.setInitial(0, 1);
        x.setBounds(3, 0, 0);
        x.setPredicate(-1, 0);
        x.local(3, 0);
        x.send(3, 0);
        x.receive(0, 0, 0);
        x.possibly();
        x.countConsistent();
        x.countSatisfying();
        x.cutState(1, 0, 0, 0);
        x.stamp(0, 1, 0);
        x.eventCount(0);
        x.witness(0);
        check.duePath("after refused calls and getters", x, 1, 0);
        x.definitely();
        check.duePath("after definitely again", x, 1, 0);
        x.local(0, 1);
        check.dueNoPath("after a new event", x);
    }

    private static void shorterThanAnEarlierOne() {
        CutLatticeDetect x = new CutLatticeDetect(2, 6);
        x.local(0, 0);
        x.local(0, 0);
        x.setBounds(0, 1, 1);
        x.definitely();
        check.duePath("of two steps", x, 0, 0);
        x.local(1, 0);
        x.definitely();
        check.duePath("of three steps", x, 0, 0, 1);
        x.setBounds(0, 0, 0);
        x.definitely();
        check.dueNoPath("after a true definitely", x);
    }
}
