/** Objects that several tests start from, and all that can be seen of an object. */
final class Scene {
    static final int[] NO_INDEX_FOR_TWO = {-1, 2, 3, 4, 7, Integer.MIN_VALUE, Integer.MAX_VALUE};
    static final int[] NO_INDEX_FOR_THREE = {-1, 3, 4, 7, Integer.MIN_VALUE, Integer.MAX_VALUE};
    static final int[] NO_INDEX_FOR_FOUR = {-1, 4, 5, 8, Integer.MIN_VALUE, Integer.MAX_VALUE};

    private Scene() {
    }

    /**
     * Three processes with room for three events each; 0 sent message 0, 1 had a local event,
     * 2 had none. The predicate holds in the cut (1, 0, 0) alone: that is the witness, and
     * (1, 0) the recorded path.
     */
    static CutLatticeDetect withResults() {
        CutLatticeDetect x = new CutLatticeDetect(3, 3);
        x.send(0, 1);
        x.local(1, 1);
        x.setBounds(0, 1, 1);
        x.setBounds(1, 0, 0);
        x.possibly();
        x.definitely();
        return x;
    }

    /** Two processes that each send one message and then receive the other's: (2, 0) and (0, 2) are inconsistent. */
    static CutLatticeDetect crossing() {
        CutLatticeDetect x = new CutLatticeDetect(2, 6);
        x.send(0, 10);
        x.send(1, 100);
        x.receive(0, 1, 20);
        x.receive(1, 0, 200);
        return x;
    }

    /** Every answer of every getter, for telling whether a call changed anything that can be seen. */
    static String seen(CutLatticeDetect x) {
        StringBuilder all = new StringBuilder();
        for (int p = -1; p <= 4; p++) {
            all.append(" n").append(x.eventCount(p)).append(" w").append(x.witness(p));
        }
        for (int p = 0; p < 4; p++) {
            for (int k = 0; k <= 7; k++) {
                for (int q = 0; q < 4; q++) {
                    all.append(' ').append(x.stamp(p, k, q));
                }
            }
        }
        all.append(" path").append(x.pathLength());
        for (int i = 0; i < 24; i++) {
            all.append(' ').append(x.pathStep(i));
        }
        all.append(" count").append(x.countConsistent()).append(' ').append(x.countSatisfying()).append(' ');
        for (int cut = 0; cut < 4096; cut++) {
            all.append(x.cutState(cut >> 9, (cut >> 6) & 7, (cut >> 3) & 7, cut & 7));
        }
        return all.toString();
    }
}
