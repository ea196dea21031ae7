import java.util.Arrays;

/** Counts the answers that are not the ones due, and ends the test with exit code 1 if there were any. */
final class Check {
    private static final int MOST_SHOWN = 40;
    private static final int AROUND = 60;

    private final String test;
    private int done = 0;
    private int wrong = 0;

    Check(String test) {
        this.test = test;
    }

    void due(String call, Object got, Object want) {
        done++;
        if (!got.equals(want)) {
            wrong++;
            if (wrong <= MOST_SHOWN) {
                int from = whereTheyPart(got.toString(), want.toString());
                System.out.println(test + ": " + call + " answered " + part(got, from)
                        + ", due is " + part(want, from));
            }
        }
    }

    private static int whereTheyPart(String a, String b) {
        int i = 0;
        while (i < a.length() && i < b.length() && a.charAt(i) == b.charAt(i)) {
            i++;
        }
        return i;
    }

    /** The whole of a short answer, but of a long one only the place where it goes wrong. */
    private static String part(Object answer, int from) {
        String all = answer.toString();
        if (all.length() <= 2 * AROUND) {
            return all;
        }
        int begin = Math.max(0, from - AROUND);
        return ".. " + all.substring(begin, Math.min(all.length(), from + AROUND)) + " ..";
    }

    void duePath(String when, CutLatticeDetect x, int... steps) {
        due("pathLength() " + when, x.pathLength(), steps.length);
        int[] got = new int[steps.length];
        for (int i = 0; i < steps.length; i++) {
            got[i] = x.pathStep(i);
        }
        due("pathStep(0..) " + when, Arrays.toString(got), Arrays.toString(steps));
        due("pathStep(N) " + when, x.pathStep(steps.length), -1);
    }

    void dueNoPath(String when, CutLatticeDetect x) {
        due("pathLength() " + when, x.pathLength(), -1);
        for (int i = -1; i <= 24; i++) {
            due("pathStep(" + i + ") " + when, x.pathStep(i), -1);
        }
    }

    void dueWitness(String when, CutLatticeDetect x, int... cut) {
        int[] got = new int[cut.length];
        for (int p = 0; p < cut.length; p++) {
            got[p] = x.witness(p);
        }
        due("witness(0..) " + when, Arrays.toString(got), Arrays.toString(cut));
        due("witness(-1) " + when, x.witness(-1), -1);
        due("witness(P) " + when, x.witness(cut.length), -1);
    }

    void dueNoWitness(String when, CutLatticeDetect x) {
        for (int p = -1; p <= 4; p++) {
            due("witness(" + p + ") " + when, x.witness(p), -1);
        }
    }

    /** A test that asked nothing is not good either. */
    boolean isGood() {
        return wrong == 0 && done > 0;
    }

    void end() {
        System.out.println(test + ": " + (done - wrong) + " of " + done + " answers are as due");
        if (!isGood()) {
            System.exit(1);
        }
    }
}
