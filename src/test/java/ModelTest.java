/** All promises: long runs of calls, every answer compared with the model's. The runs are the same every time. */
public final class ModelTest {
    private static final Check check = new Check("ModelTest");
    private static final int[] FAR = {Integer.MIN_VALUE, Integer.MIN_VALUE + 1, -1, 0, 1, Integer.MAX_VALUE - 1,
        Integer.MAX_VALUE};

    private long seed;
    private final CutLatticeDetect x;
    private final Model model;
    private final boolean farValues;
    private final StringBuilder calls = new StringBuilder();

    private ModelTest(int run) {
        seed = run * 0x9E3779B97F4A7C15L + 1;
        int procs = run % 5 == 0 ? FAR[below(FAR.length)] : 1 + below(5);
        int room = run % 7 == 0 ? FAR[below(FAR.length)] : 1 + below(7);
        farValues = run % 4 == 0;
        x = new CutLatticeDetect(procs, room);
        model = new Model(procs, room);
        calls.append("run ").append(run).append(": new(").append(procs).append(", ").append(room).append(")");
    }

    public static void main(String[] args) {
        for (int run = 0; run < 4000; run++) {
            new ModelTest(run).go(10 + run % 50);
        }
        check.end();
    }

    private int below(int bound) {
        seed = seed * 6364136223846793005L + 1442695040888963407L;
        return (int) ((seed >>> 33) % bound);
    }

    private int process() {
        return below(20) == 0 ? FAR[below(FAR.length)] : below(17) / 4;
    }

    private int message() {
        return below(20) == 0 ? FAR[below(FAR.length)] : below(18) - 1;
    }

    private int value() {
        return farValues && below(2) == 0 ? FAR[below(FAR.length)] : below(9) - 4;
    }

    private void go(int many) {
        for (int i = 0; i < many; i++) {
            change();
            look();
        }
        everyCut();
    }

    private void due(String call, Object got, Object want) {
        check.due(calls + " then " + call, got, want);
    }

    private void change() {
        int p = process();
        int a = value();
        int b = value();
        int msg = message();
        switch (below(12)) {
            case 0 -> {
                calls.append(" setInitial(").append(p).append(", ").append(a).append(")");
                due("", x.setInitial(p, a), model.setInitial(p, a));
            }
            case 1 -> {
                calls.append(" setBounds(").append(p).append(", ").append(a).append(", ").append(b).append(")");
                due("", x.setBounds(p, a, b), model.setBounds(p, a, b));
            }
            case 2 -> {
                int mode = below(5) - 1;
                calls.append(" setPredicate(").append(mode).append(", ").append(a).append(")");
                due("", x.setPredicate(mode, a), model.setPredicate(mode, a));
            }
            case 3, 4 -> {
                calls.append(" local(").append(p).append(", ").append(a).append(")");
                due("", x.local(p, a), model.local(p, a));
            }
            case 5, 6, 7 -> {
                calls.append(" send(").append(p).append(", ").append(a).append(")");
                due("", x.send(p, a), model.send(p, a));
            }
            default -> {
                calls.append(" receive(").append(p).append(", ").append(msg).append(", ").append(a).append(")");
                due("", x.receive(p, msg, a), model.receive(p, msg, a));
            }
        }
    }

    private void look() {
        if (below(5) == 0) {
            calls.append(" possibly()");
            due("", x.possibly(), model.possibly());
        }
        if (below(5) == 0) {
            calls.append(" definitely()");
            due("", x.definitely(), model.definitely());
        }
        int p = process();
        int q = process();
        int k = below(9) - 1;
        due("eventCount(" + p + ")", x.eventCount(p), model.eventCount(p));
        due("stamp(" + p + ", " + k + ", " + q + ")", x.stamp(p, k, q), model.stamp(p, k, q));
        for (int each = -1; each <= 4; each++) {
            due("witness(" + each + ")", x.witness(each), model.witness(each));
        }
        due("pathLength()", x.pathLength(), model.pathLength());
        for (int i = -1; i <= 24; i++) {
            due("pathStep(" + i + ")", x.pathStep(i), model.pathStep(i));
        }
    }

    private void everyCut() {
        due("countConsistent()", x.countConsistent(), model.countConsistent());
        due("countSatisfying()", x.countSatisfying(), model.countSatisfying());
        for (int code = 0; code < 4096; code++) {
            int a = (code >> 9) - (code & 1);
            int b = (code >> 6) & 7;
            int c = (code >> 3) & 7;
            int d = code & 7;
            int got = x.cutState(a, b, c, d);
            int want = model.cutState(a, b, c, d);
            if (got != want) {
                due("cutState(" + a + ", " + b + ", " + c + ", " + d + ")", got, want);
            }
        }
        for (int p = 0; p < 4; p++) {
            for (int k = 0; k <= 7; k++) {
                for (int q = 0; q < 4; q++) {
                    due("stamp(" + p + ", " + k + ", " + q + ")", x.stamp(p, k, q), model.stamp(p, k, q));
                }
            }
        }
    }
}
