import java.util.function.Function;
import java.util.function.Supplier;

/** Compares an object that had one further call with its twin that did not have it. */
final class Unchanged {
    private static final int[] VALUES = {Scene.MIN, -9, -1, 0, 1, 2, 3, 4, 6, 7, 9, Scene.MAX};

    private Unchanged() {
    }

    /** The call is refused with this answer, and nothing at all has changed. */
    static void dueByRefused(Check check, Supplier<CutLatticeDetect> scene, String call,
            Function<CutLatticeDetect, Object> further, Object answer) {
        CutLatticeDetect x = scene.get();
        CutLatticeDetect twin = scene.get();
        check.due(call, further.apply(x), answer);
        dueSameWitness(check, call, x, twin);
        dueSamePath(check, call, x, twin);
        dueSameState(check, call, x, twin);
    }

    static void dueByGetter(Check check, Supplier<CutLatticeDetect> scene, String call,
            Function<CutLatticeDetect, Object> further) {
        Object answer = further.apply(scene.get());
        dueByRefused(check, scene, call, further, answer);
    }

    static void dueSameWitness(Check check, String call, CutLatticeDetect x, CutLatticeDetect twin) {
        check.due("the witness after " + call, witnessOf(x), witnessOf(twin));
    }

    static void dueSamePath(Check check, String call, CutLatticeDetect x, CutLatticeDetect twin) {
        check.due("the path after " + call, pathOf(x), pathOf(twin));
    }

    /** All but the results, which this comparison does not keep: neither object is of use after it. */
    static void dueSameState(Check check, String call, CutLatticeDetect x, CutLatticeDetect twin) {
        check.due("the state after " + call, stateOf(x), stateOf(twin));
    }

    private static String witnessOf(CutLatticeDetect x) {
        StringBuilder all = new StringBuilder();
        for (int p = 0; p < 4; p++) {
            all.append(x.witness(p)).append(' ');
        }
        return all.toString();
    }

    private static String pathOf(CutLatticeDetect x) {
        StringBuilder all = new StringBuilder("length " + x.pathLength() + ":");
        for (int i = 0; i < 24; i++) {
            all.append(' ').append(x.pathStep(i));
        }
        return all.toString();
    }

    /** Found out by use: what no getter tells (bounds under a sum mode, messages) shows in later answers. */
    private static String stateOf(CutLatticeDetect x) {
        StringBuilder all = new StringBuilder();
        x.possibly();
        x.definitely();
        all.append("seen").append(Scene.seen(x));
        x.setPredicate(CutLatticeDetect.MODE_CONJ, 0);
        all.append(" bounds").append(Scene.seen(x));
        all.append(" values");
        appendValues(x, all);
        all.append(" messages");
        appendMessages(x, all);
        all.append(" room");
        appendRoom(x, all);
        all.append(" end").append(Scene.seen(x));
        return all.toString();
    }

    private static void appendValues(CutLatticeDetect x, StringBuilder all) {
        for (int p = 0; p < 4; p++) {
            for (int k = 0; k <= Math.max(0, x.eventCount(p)); k++) {
                for (int value : VALUES) {
                    all.append(Scene.hasValue(x, p, k, value) ? " 1" : " 0");
                }
            }
        }
    }

    private static void appendMessages(CutLatticeDetect x, StringBuilder all) {
        for (int msg = -1; msg <= 17; msg++) {
            for (int p = 0; p < 4; p++) {
                all.append(' ').append(x.receive(p, msg, 0));
            }
        }
    }

    private static void appendRoom(CutLatticeDetect x, StringBuilder all) {
        for (int p = 0; p < 4; p++) {
            all.append(' ').append(x.setInitial(p, 3)).append(' ').append(x.send(p, 1));
            for (int i = 0; i < 7; i++) {
                all.append(' ').append(x.local(p, i));
            }
        }
    }
}
