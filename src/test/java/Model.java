import java.util.ArrayList;
import java.util.HashSet;
import java.util.List;
import java.util.Set;

/**
 * The document's promises once more, in another way than the class: timestamps are counted from
 * the happened-before relation, a cut is consistent if no receive in it lacks its send, and
 * avoiding paths are searched from the initial cut.
 */
final class Model {
    private record Event(int value, int sent, int received) {
    }

    private final int procs;
    private final int room;
    private final List<List<Event>> events = new ArrayList<>();
    private final List<int[]> sends = new ArrayList<>();
    private final Set<Integer> consumed = new HashSet<>();
    private final int[] initial = new int[4];
    private final int[] lo = new int[4];
    private final int[] hi = new int[4];
    private int mode = 0;
    private int threshold = 0;
    private int[] witness = null;
    private List<Integer> path = null;

    Model(int procs, int room) {
        this.procs = Math.max(1, Math.min(4, procs));
        this.room = Math.max(1, Math.min(6, room));
        for (int p = 0; p < 4; p++) {
            events.add(new ArrayList<>());
            lo[p] = Integer.MIN_VALUE;
            hi[p] = Integer.MAX_VALUE;
        }
    }

    private boolean known(int p) {
        return p >= 0 && p < procs;
    }

    private void forget() {
        witness = null;
        path = null;
    }

    boolean setInitial(int p, int value) {
        if (!known(p) || !events.get(p).isEmpty()) {
            return false;
        }
        initial[p] = value;
        forget();
        return true;
    }

    boolean setBounds(int p, int low, int high) {
        if (!known(p)) {
            return false;
        }
        lo[p] = low;
        hi[p] = high;
        forget();
        return true;
    }

    boolean setPredicate(int newMode, int newThreshold) {
        if (newMode < 0 || newMode > 2) {
            return false;
        }
        mode = newMode;
        threshold = newThreshold;
        forget();
        return true;
    }

    private boolean full(int p) {
        return !known(p) || events.get(p).size() == room;
    }

    private int add(int p, Event event) {
        events.get(p).add(event);
        forget();
        return events.get(p).size();
    }

    int local(int p, int value) {
        return full(p) ? -1 : add(p, new Event(value, -1, -1));
    }

    int send(int p, int value) {
        if (full(p) || sends.size() == 16) {
            return -1;
        }
        int k = add(p, new Event(value, sends.size(), -1));
        sends.add(new int[] {p, k});
        return sends.size() - 1;
    }

    int receive(int p, int msg, int value) {
        if (full(p) || msg < 0 || msg >= sends.size() || consumed.contains(msg) || sends.get(msg)[0] == p) {
            return -1;
        }
        consumed.add(msg);
        return add(p, new Event(value, -1, msg));
    }

    int eventCount(int p) {
        return known(p) ? events.get(p).size() : -1;
    }

    int stamp(int p, int k, int q) {
        if (!known(p) || !known(q) || k < 1 || k > events.get(p).size()) {
            return -1;
        }
        Set<Integer> past = new HashSet<>();
        collectPast(p, k, past);
        int found = 0;
        for (int event : past) {
            found += event / 10 == q ? 1 : 0;
        }
        return found;
    }

    private void collectPast(int p, int k, Set<Integer> past) {
        if (k == 0 || !past.add(p * 10 + k)) {
            return;
        }
        collectPast(p, k - 1, past);
        int msg = events.get(p).get(k - 1).received();
        if (msg >= 0) {
            collectPast(sends.get(msg)[0], sends.get(msg)[1], past);
        }
    }

    int cutState(int... c) {
        for (int p = 0; p < 4; p++) {
            if (c[p] < 0 || c[p] > (p < procs ? events.get(p).size() : 0)) {
                return 0;
            }
        }
        for (int p = 0; p < procs; p++) {
            for (Event event : events.get(p).subList(0, c[p])) {
                if (event.received() >= 0) {
                    int[] send = sends.get(event.received());
                    if (c[send[0]] < send[1]) {
                        return 1;
                    }
                }
            }
        }
        return holds(c) ? 3 : 2;
    }

    private boolean holds(int[] c) {
        boolean inBounds = true;
        long sum = 0;
        for (int p = 0; p < procs; p++) {
            int x = c[p] == 0 ? initial[p] : events.get(p).get(c[p] - 1).value();
            inBounds = inBounds && x >= lo[p] && x <= hi[p];
            sum += x;
        }
        return switch (mode) {
            case 0 -> inBounds;
            case 1 -> sum >= threshold;
            default -> sum <= threshold;
        };
    }

    private List<int[]> cutsOfState(int least) {
        List<int[]> found = new ArrayList<>();
        for (int a = 0; a <= 6; a++) {
            for (int b = 0; b <= 6; b++) {
                for (int c = 0; c <= 6; c++) {
                    for (int d = 0; d <= 6; d++) {
                        if (cutState(a, b, c, d) >= least) {
                            found.add(new int[] {a, b, c, d});
                        }
                    }
                }
            }
        }
        return found;
    }

    int countConsistent() {
        return cutsOfState(2).size();
    }

    int countSatisfying() {
        return cutsOfState(3).size();
    }

    boolean possibly() {
        witness = null;
        for (int[] c : cutsOfState(3)) {
            if (witness == null || isLess(c, witness)) {
                witness = c;
            }
        }
        return witness != null;
    }

    private static boolean isLess(int[] a, int[] b) {
        int levels = a[0] + a[1] + a[2] + a[3] - b[0] - b[1] - b[2] - b[3];
        return levels < 0 || levels == 0 && java.util.Arrays.compare(a, b) < 0;
    }

    int witness(int p) {
        return witness == null || !known(p) ? -1 : witness[p];
    }

    boolean definitely() {
        List<Integer> steps = new ArrayList<>();
        boolean avoided = search(new int[4], steps, new HashSet<>());
        path = avoided ? steps : null;
        return !avoided;
    }

    /** Tries the steps from c in rising order: the first path that arrives is the least. */
    private boolean search(int[] c, List<Integer> steps, Set<String> dead) {
        String name = java.util.Arrays.toString(c);
        if (cutState(c) != 2 || dead.contains(name)) {
            return false;
        }
        int left = 0;
        for (int p = 0; p < procs; p++) {
            left += events.get(p).size() - c[p];
        }
        if (left == 0) {
            return true;
        }
        for (int p = 0; p < procs; p++) {
            c[p]++;
            steps.add(p);
            boolean arrived = search(c, steps, dead);
            c[p]--;
            if (arrived) {
                return true;
            }
            steps.remove(steps.size() - 1);
        }
        dead.add(name);
        return false;
    }

    int pathLength() {
        return path == null ? -1 : path.size();
    }

    int pathStep(int i) {
        return path == null || i < 0 || i >= path.size() ? -1 : path.get(i);
    }
}
