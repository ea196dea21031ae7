import java.util.Arrays;

/** Counts the answers that are not the ones due, and ends the test with exit code 1 if there were any. */
final class Check {
    private static final int MOST_SHOWN = 40;

    private final String test;
    private int done = 0;
    private int wrong = 0;

    Check(String test) {
        this.test = test;
    }

    void due(String call, Object got, Object want) {
        done++;
        if (!got.equals(want)) {
            wrong++;
            if (wrong <= MOST_SHOWN) {
                System.out.println(test + ": " + call + " answered " + got + ", due is " + want);
            }
        }
    }

    void duePath(String when, CutLatticeDetect x, int... steps) {
        due("pathLength() " + when, x.pathLength(), steps.length);
        int[] got = new int[steps.length];
        for (int i = 0; i < steps.length; i++) {
            got[i] = x.pathStep(i);
        }
        due("pathStep(0..) " + when, Arrays.toString(got), Arrays.toString(steps));
        due("pathStep(N) " + when, x.pathStep(steps.length), -1);
    }

    void dueNoPath(String when, CutLatticeDetect x) {
        due("pathLength() " + when, x.pathLength(), -1);
        for (int i = -1; i <= 24; i++) {
            due("pathStep(" + i + ") " + when, x.pathStep(i), -1);
        }
    }

    void dueWitness(String when, CutLatticeDetect x, int... cut) {
        int[] got = new int[cut.length];
        for (int p = 0; p < cut.length; p++) {
            got[p] = x.witness(p);
        }
        due("witness(0..) " + when, Arrays.toString(got), Arrays.toString(cut));
        due("witness(-1) " + when, x.witness(-1), -1);
        due("witness(P) " + when, x.witness(cut.length), -1);
    }

    void dueNoWitness(String when, CutLatticeDetect x) {
        for (int p = -1; p <= 4; p++) {
            due("witness(" + p + ") " + when, x.witness(p), -1);
        }
    }

    void end() {
        System.out.println(test + ": " + (done - wrong) + " of " + done + " answers are as due");
        if (wrong != 0 || done == 0) {
            System.exit(1);
        }
    }
}
