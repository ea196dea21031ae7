import java.util.Arrays;

/** Objects that several tests start from, and all that can be seen of an object. */
final class Scene {
    static final int MIN = Integer.MIN_VALUE;
    static final int MAX = Integer.MAX_VALUE;

    /** Values at which a comparison by subtraction, or a sum of ints, would wrap around. */
    static final int[] VALUES = {MIN, MIN + 1, -1, 0, 1, MAX - 1, MAX};

    /** Among them numbers that would become small if they were masked, shortened or multiplied with wrap-around. */
    private static final int[] INDICES = {-1, -2, -3, -4, -7, -8, -16, -64, -256, -512, 0, 1, 2, 3, 4, 5, 6, 7, 8, 9,
        15, 16, 17, 18, 24, 28, 32, 63, 64, 100, 255, 256, 257, 512, 4095, 4096, 65535, 65536, 65537, 1 << 28, 1 << 29,
        1 << 30, (1 << 30) + 1, (1 << 30) + 2, 1431655765, 613566757, -1227133513, MAX - 1, MAX, MIN, MIN + 1, MIN + 2,
        MIN + 3};

    private Scene() {
    }

    /** Numbers that are not in 0..bound-1. */
    static int[] outside(int bound) {
        return Arrays.stream(INDICES).filter(i -> i < 0 || i >= bound).toArray();
    }

    static int[] negatives() {
        return Arrays.stream(INDICES).filter(i -> i < 0).toArray();
    }

    /**
     * Three processes with room for three events each; 0 sent message 0, 1 had a local event,
     * 2 had none. The predicate holds in the cut (1, 0, 0) alone: that is the witness, and
     * (1, 0) the recorded path.
     */
    static CutLatticeDetect withResults() {
        CutLatticeDetect x = new CutLatticeDetect(3, 3);
        x.send(0, 1);
        x.local(1, 1);
        x.setBounds(0, 1, 1);
        x.setBounds(1, 0, 0);
        x.possibly();
        x.definitely();
        return x;
    }

    /**
     * Four processes with room for three events each: 0 is full and sent messages 0 and 1, 1 received
     * message 0, 2 sent message 2, 3 had no event. Messages 1 and 2 are pending. Only (1, 0, 0, 0) and
     * (2, 0, 0, 0) satisfy: the witness is the first, the recorded path 2, 0, 0, 0, 1.
     */
    static CutLatticeDetect busy() {
        CutLatticeDetect x = busyWithoutResults();
        x.possibly();
        x.definitely();
        return x;
    }

    /**
     * The same events in a sum mode, the bounds kept beneath it: the witness is (0, 0, 1, 0), the
     * recorded path 0, 0, 0, 1, 2.
     */
    static CutLatticeDetect busyBySum() {
        CutLatticeDetect x = busyWithoutResults();
        x.setPredicate(CutLatticeDetect.MODE_SUM_GE, 12);
        x.possibly();
        x.definitely();
        return x;
    }

    static CutLatticeDetect busyWithWitness() {
        CutLatticeDetect x = busyWithoutResults();
        x.possibly();
        return x;
    }

    static CutLatticeDetect busyWithPath() {
        CutLatticeDetect x = busyWithoutResults();
        x.definitely();
        return x;
    }

    static CutLatticeDetect busyWithoutResults() {
        CutLatticeDetect x = new CutLatticeDetect(4, 3);
        x.setInitial(1, 2);
        x.setInitial(3, 4);
        x.send(0, 1);
        x.send(0, 2);
        x.local(0, -9);
        x.receive(1, 0, 6);
        x.send(2, 7);
        x.setBounds(0, 1, 2);
        x.setBounds(1, 0, 5);
        x.setBounds(2, 0, 6);
        return x;
    }

    /**
     * All sixteen messages are sent, five by each of 0, 1 and 2 and one by 3, and every process has
     * room for more. The witness is (5, 0, 0, 0) and the recorded path has sixteen steps.
     */
    static CutLatticeDetect allSent() {
        CutLatticeDetect x = new CutLatticeDetect(4, 6);
        for (int m = 0; m < 16; m++) {
            x.send(m / 5, m);
        }
        x.setBounds(0, 4, 4);
        x.setBounds(1, 0, 0);
        x.possibly();
        x.definitely();
        return x;
    }

    /** No event, no witness, and the empty path recorded. */
    static CutLatticeDetect withEmptyPath() {
        CutLatticeDetect x = new CutLatticeDetect(3, 2);
        x.setBounds(0, 1, 1);
        x.possibly();
        x.definitely();
        return x;
    }

    /** No event, the initial cut the witness, and no path. */
    static CutLatticeDetect withInitialWitness() {
        CutLatticeDetect x = new CutLatticeDetect(3, 2);
        x.possibly();
        x.definitely();
        return x;
    }

    /** Two processes that each send one message and then receive the other's: (2, 0) and (0, 2) are inconsistent. */
    static CutLatticeDetect crossing() {
        CutLatticeDetect x = new CutLatticeDetect(2, 6);
        x.send(0, 10);
        x.send(1, 100);
        x.receive(0, 1, 20);
        x.receive(1, 0, 200);
        return x;
    }

    /** Six events for each of the processes, all local, event k with the value k. */
    static CutLatticeDetect full(int procs) {
        CutLatticeDetect x = new CutLatticeDetect(procs, 6);
        for (int p = 0; p < procs; p++) {
            for (int k = 1; k <= 6; k++) {
                x.local(p, k);
            }
        }
        return x;
    }

    /** Whether x_p has the value after k events of p. It leaves MODE_CONJ and other bounds behind. */
    static boolean hasValue(CutLatticeDetect x, int p, int k, int value) {
        x.setPredicate(CutLatticeDetect.MODE_CONJ, 0);
        int[] cut = new int[4];
        for (int q = 0; q < 4; q++) {
            x.setBounds(q, MIN, MAX);
            // The least cut with event k of p in it is that event's timestamp, so this cut is consistent.
            cut[q] = Math.max(0, x.stamp(p, k, q));
        }
        x.setBounds(p, value, value);
        return x.cutState(cut[0], cut[1], cut[2], cut[3]) == CutLatticeDetect.CUT_TRUE;
    }

    static String stampOf(CutLatticeDetect x, int p, int k) {
        StringBuilder all = new StringBuilder();
        for (int q = 0; q < 4; q++) {
            all.append(q == 0 ? "" : " ").append(x.stamp(p, k, q));
        }
        return all.toString();
    }

    /** Every answer of every getter, for telling whether a call changed anything that can be seen. */
    static String seen(CutLatticeDetect x) {
        StringBuilder all = new StringBuilder();
        for (int p = -1; p <= 4; p++) {
            all.append(" n").append(x.eventCount(p)).append(" w").append(x.witness(p));
        }
        for (int p = 0; p < 4; p++) {
            for (int k = 0; k <= 7; k++) {
                for (int q = 0; q < 4; q++) {
                    all.append(' ').append(x.stamp(p, k, q));
                }
            }
        }
        all.append(" path").append(x.pathLength());
        for (int i = 0; i < 24; i++) {
            all.append(' ').append(x.pathStep(i));
        }
        all.append(" count").append(x.countConsistent()).append(' ').append(x.countSatisfying()).append(' ');
        for (int cut = 0; cut < 4096; cut++) {
            all.append(x.cutState(cut >> 9, (cut >> 6) & 7, (cut >> 3) & 7, cut & 7));
        }
        return all.toString();
    }
}
