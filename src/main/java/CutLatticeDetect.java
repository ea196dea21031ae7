/**
 * Watches a small distributed computation and finds whether a predicate over its
 * global state possibly or definitely held.
 *
 * A cut is kept as one int, its code: three bits a process, process 0 in the highest.
 * So the order of the codes is the lexicographic order of the cuts, and every step of
 * a path leads to a greater code.
 */
public final class CutLatticeDetect {
    public static final int MAX_PROCS = 4;
    public static final int MAX_EVENTS = 6;
    public static final int MAX_MESSAGES = 16;

    public static final int MODE_CONJ = 0;
    public static final int MODE_SUM_GE = 1;
    public static final int MODE_SUM_LE = 2;

    public static final int CUT_INVALID = 0;
    public static final int CUT_INCONSISTENT = 1;
    public static final int CUT_FALSE = 2;
    public static final int CUT_TRUE = 3;

    private static final int REFUSED = -1;
    private static final int NONE = -1;

    private static final int LEAST_INT = -2147483648;
    private static final int GREATEST_INT = 2147483647;

    private static final int INDEX_BITS = 3;
    private static final int INDEX_MASK = 7;
    private static final int TOP_SHIFT = 9;
    private static final int CUT_CODES = 4096;
    private static final int INITIAL_CUT = 0;

    // Slot 0 of a process stands for "no event yet": it holds the initial value and a
    // timestamp of zeros, so that a process at index 0 needs no case of its own.
    private static final int SLOTS_PER_PROC = MAX_EVENTS + 1;
    private static final int EVENT_SLOTS = MAX_PROCS * SLOTS_PER_PROC;
    private static final int STAMP_CELLS = EVENT_SLOTS * MAX_PROCS;
    private static final int MAX_STEPS = MAX_PROCS * MAX_EVENTS;

    // An event slot whose timestamp is always all zeros: merging it changes nothing.
    private static final int NO_CAUSE = 0;

    private final int procs;
    private final int maxEvents;

    // Processes from P on never get an event: their count and their values stay 0.
    private final int[] counts = new int[MAX_PROCS];
    private final int[] values = new int[EVENT_SLOTS];
    private final int[] stamps = new int[STAMP_CELLS];

    private int messages = 0;
    private final int[] senders = new int[MAX_MESSAGES];
    private final int[] sendSlots = new int[MAX_MESSAGES];
    private final boolean[] received = new boolean[MAX_MESSAGES];

    private int mode = MODE_CONJ;
    private int threshold = 0;
    private final int[] lows = new int[MAX_PROCS];
    private final int[] highs = new int[MAX_PROCS];

    private int witnessCut = NONE;
    private int pathSteps = NONE;
    private final int[] path = new int[MAX_STEPS];

    // Scratch of definitely(): whether the final cut can be reached from a cut, that cut
    // included, through consistent cuts alone that do not satisfy the predicate.
    private final boolean[] avoidable = new boolean[CUT_CODES];

    public CutLatticeDetect(int procs, int maxEvents) {
        this.procs = clamp(procs, MAX_PROCS);
        this.maxEvents = clamp(maxEvents, MAX_EVENTS);
        for (int p = 0; p < MAX_PROCS; p++) {
            lows[p] = LEAST_INT;
            highs[p] = GREATEST_INT;
        }
    }

    public boolean setInitial(int p, int value) {
        if (!isProcess(p) || counts[p] >= 1) {
            return false;
        }
        values[slotOf(p, 0)] = value;
        forgetResults();
        return true;
    }

    public boolean setBounds(int p, int lo, int hi) {
        if (!isProcess(p)) {
            return false;
        }
        lows[p] = lo;
        highs[p] = hi;
        forgetResults();
        return true;
    }

    public boolean setPredicate(int mode, int threshold) {
        if (mode != MODE_CONJ && mode != MODE_SUM_GE && mode != MODE_SUM_LE) {
            return false;
        }
        this.mode = mode;
        this.threshold = threshold;
        forgetResults();
        return true;
    }

    public int local(int p, int value) {
        if (!hasRoom(p)) {
            return REFUSED;
        }
        addEvent(p, value, NO_CAUSE);
        return counts[p];
    }

    public int send(int p, int value) {
        if (!hasRoom(p) || messages >= MAX_MESSAGES) {
            return REFUSED;
        }
        addEvent(p, value, NO_CAUSE);
        int msg = messages;
        senders[msg] = p;
        // A timestamp never changes once computed, so the slot can stand for C(msg).
        sendSlots[msg] = slotOf(p, counts[p]);
        messages = msg + 1;
        return msg;
    }

    public int receive(int p, int msg, int value) {
        if (!hasRoom(p) || !isPending(msg) || senders[msg] == p) {
            return REFUSED;
        }
        received[msg] = true;
        addEvent(p, value, sendSlots[msg]);
        return counts[p];
    }

    public int eventCount(int p) {
        return isProcess(p) ? counts[p] : NONE;
    }

    public int stamp(int p, int k, int q) {
        if (!isProcess(p) || !isProcess(q) || k < 1 || k > counts[p]) {
            return NONE;
        }
        return stamps[slotOf(p, k) * MAX_PROCS + q];
    }

    public int cutState(int c0, int c1, int c2, int c3) {
        // An index that needs more than its three bits would spill into its neighbour's.
        if (!fitsInCode(c0) || !fitsInCode(c1) || !fitsInCode(c2) || !fitsInCode(c3)) {
            return CUT_INVALID;
        }
        int code = c0;
        code = (code << INDEX_BITS) + c1;
        code = (code << INDEX_BITS) + c2;
        code = (code << INDEX_BITS) + c3;
        return stateOf(code);
    }

    public int countConsistent() {
        int found = 0;
        for (int cut = 0; cut < CUT_CODES; cut++) {
            int state = stateOf(cut);
            if (state == CUT_FALSE || state == CUT_TRUE) {
                found++;
            }
        }
        return found;
    }

    public int countSatisfying() {
        int found = 0;
        for (int cut = 0; cut < CUT_CODES; cut++) {
            if (stateOf(cut) == CUT_TRUE) {
                found++;
            }
        }
        return found;
    }

    public boolean possibly() {
        int best = NONE;
        int bestLevel = MAX_STEPS + 1;
        for (int cut = 0; cut < CUT_CODES; cut++) {
            int level = levelOf(cut);
            // Cuts come in lexicographic order: among equal levels the first one stays.
            if (level < bestLevel && stateOf(cut) == CUT_TRUE) {
                best = cut;
                bestLevel = level;
            }
        }
        witnessCut = best;
        return best != NONE;
    }

    public int witness(int p) {
        if (witnessCut == NONE || !isProcess(p)) {
            return NONE;
        }
        return indexIn(witnessCut, p);
    }

    public boolean definitely() {
        // Downwards, because whether a cut is avoidable depends on greater codes alone.
        for (int cut = CUT_CODES - 1; cut >= 0; cut--) {
            avoidable[cut] = stateOf(cut) == CUT_FALSE
                    && (isFinal(cut) || leastAvoidingStep(cut) != NONE);
        }
        if (!avoidable[INITIAL_CUT]) {
            pathSteps = NONE;
            return true;
        }
        recordPath();
        return false;
    }

    public int pathLength() {
        return pathSteps;
    }

    public int pathStep(int i) {
        // Without a recorded path pathSteps is below 0, so that no i passes.
        return i >= 0 && i < pathSteps ? path[i] : NONE;
    }

    private static int clamp(int wanted, int most) {
        if (wanted < 1) {
            return 1;
        }
        return wanted > most ? most : wanted;
    }

    private static int slotOf(int p, int k) {
        return p * SLOTS_PER_PROC + k;
    }

    private static boolean fitsInCode(int index) {
        return index >= 0 && index <= INDEX_MASK;
    }

    private static int indexIn(int cut, int p) {
        return (cut >> (TOP_SHIFT - p * INDEX_BITS)) & INDEX_MASK;
    }

    private static int stepFrom(int cut, int p) {
        return cut + (1 << (TOP_SHIFT - p * INDEX_BITS));
    }

    private static int levelOf(int cut) {
        int level = 0;
        for (int p = 0; p < MAX_PROCS; p++) {
            level += indexIn(cut, p);
        }
        return level;
    }

    private boolean isProcess(int p) {
        return p >= 0 && p < procs;
    }

    private boolean hasRoom(int p) {
        return isProcess(p) && counts[p] < maxEvents;
    }

    private boolean isPending(int msg) {
        return msg >= 0 && msg < messages && !received[msg];
    }

    private void forgetResults() {
        witnessCut = NONE;
        pathSteps = NONE;
    }

    private void addEvent(int p, int value, int causeSlot) {
        int k = counts[p] + 1;
        int slot = slotOf(p, k);
        counts[p] = k;
        values[slot] = value;
        for (int q = 0; q < procs; q++) {
            int before = stamps[(slot - 1) * MAX_PROCS + q];
            int cause = stamps[causeSlot * MAX_PROCS + q];
            stamps[slot * MAX_PROCS + q] = cause > before ? cause : before;
        }
        stamps[slot * MAX_PROCS + p] = k;
        forgetResults();
    }

    private int stateOf(int cut) {
        if (!isWithinCounts(cut)) {
            return CUT_INVALID;
        }
        if (!isConsistent(cut)) {
            return CUT_INCONSISTENT;
        }
        return satisfies(cut) ? CUT_TRUE : CUT_FALSE;
    }

    private boolean isWithinCounts(int cut) {
        // All four, not P: the index of a process that is not watched must be 0.
        for (int p = 0; p < MAX_PROCS; p++) {
            if (indexIn(cut, p) > counts[p]) {
                return false;
            }
        }
        return true;
    }

    private boolean isConsistent(int cut) {
        for (int p = 0; p < procs; p++) {
            int k = indexIn(cut, p);
            int slot = slotOf(p, k);
            for (int q = 0; q < procs; q++) {
                if (stamps[slot * MAX_PROCS + q] > indexIn(cut, q)) {
                    return false;
                }
            }
        }
        return true;
    }

    private boolean satisfies(int cut) {
        if (mode == MODE_CONJ) {
            return isWithinBounds(cut);
        }
        long sum = sumIn(cut);
        return mode == MODE_SUM_GE ? sum >= threshold : sum <= threshold;
    }

    private boolean isWithinBounds(int cut) {
        for (int p = 0; p < procs; p++) {
            int k = indexIn(cut, p);
            int value = values[slotOf(p, k)];
            if (value < lows[p] || value > highs[p]) {
                return false;
            }
        }
        return true;
    }

    private long sumIn(int cut) {
        long sum = 0;
        for (int p = 0; p < procs; p++) {
            int k = indexIn(cut, p);
            sum += values[slotOf(p, k)];
        }
        return sum;
    }

    private boolean isFinal(int cut) {
        for (int p = 0; p < procs; p++) {
            if (indexIn(cut, p) != counts[p]) {
                return false;
            }
        }
        return true;
    }

    private int leastAvoidingStep(int cut) {
        for (int p = 0; p < procs; p++) {
            if (indexIn(cut, p) < counts[p] && avoidable[stepFrom(cut, p)]) {
                return p;
            }
        }
        return NONE;
    }

    private void recordPath() {
        int cut = INITIAL_CUT;
        int steps = 0;
        int p = leastAvoidingStep(cut);
        // Only at the final cut does an avoiding path have no step left.
        while (p != NONE && steps < MAX_STEPS) {
            path[steps] = p;
            steps++;
            cut = stepFrom(cut, p);
            p = leastAvoidingStep(cut);
        }
        pathSteps = steps;
    }
}
