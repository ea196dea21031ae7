import java.util.ArrayList;
import java.util.List;
import java.util.function.Function;
import java.util.function.Supplier;

/**
 * Compares an object that had one further call with its twin that did not have it. A reading may
 * itself call what is under test, and so spoil both alike; therefore every reading has a pair of its
 * own, and what can be read in several ways is read in each of them.
 */
final class Unchanged {
    private static final int[] VALUES = {Scene.MIN, -9, -1, 0, 1, 2, 3, 4, 6, 7, 9, Scene.MAX};

    private record Reading(String name, Function<CutLatticeDetect, Object> read) {
    }

    private static final List<Reading> OF_WITNESS = List.of(new Reading("witness", Unchanged::witnessOf));
    private static final List<Reading> OF_PATH = List.of(
            new Reading("path's length", CutLatticeDetect::pathLength),
            new Reading("path's steps", Unchanged::stepsOf));
    private static final List<Reading> OF_STATE = List.of(
            new Reading("event counts", Unchanged::countsOf),
            new Reading("room", Unchanged::roomOf),
            new Reading("timestamps", Unchanged::stampsOf),
            new Reading("timestamps to come", Unchanged::nextStampsOf),
            new Reading("number of consistent cuts", CutLatticeDetect::countConsistent),
            new Reading("number of satisfying cuts", CutLatticeDetect::countSatisfying),
            new Reading("cuts", Unchanged::cutsOf),
            new Reading("answer of possibly()", CutLatticeDetect::possibly),
            new Reading("answer of definitely()", CutLatticeDetect::definitely),
            new Reading("number of cuts within the bounds", x -> byBounds(x).countSatisfying()),
            new Reading("cuts within the bounds", x -> cutsOf(byBounds(x))),
            new Reading("numbers of cuts by value", Unchanged::countsByValue),
            new Reading("values", Unchanged::valuesOf),
            new Reading("initial values that can be set", Unchanged::settableOf),
            new Reading("next message", x -> x.send(2, 0)),
            new Reading("message 0", x -> x.receive(3, 0, 0)),
            new Reading("message 1", x -> x.receive(3, 1, 0)),
            new Reading("message 2", x -> x.receive(3, 2, 0)),
            new Reading("message 3", x -> x.receive(3, 3, 0)),
            new Reading("message 2 for another", x -> x.receive(1, 2, 0)),
            new Reading("message 2 for its sender", x -> x.receive(2, 2, 0)),
            new Reading("messages", Unchanged::messagesOf));

    private Unchanged() {
    }

    /** The call is refused with this answer, and nothing at all has changed. */
    static void dueByRefused(Check check, Supplier<CutLatticeDetect> scene, String call,
            Function<CutLatticeDetect, Object> further, Object answer) {
        check.due(call, further.apply(scene.get()), answer);
        dueSameWitness(check, scene, call, further);
        dueSamePath(check, scene, call, further);
        dueSameState(check, scene, call, further);
    }

    static void dueByGetter(Check check, Supplier<CutLatticeDetect> scene, String call,
            Function<CutLatticeDetect, Object> further) {
        dueByRefused(check, scene, call, further, further.apply(scene.get()));
    }

    static void dueSameWitness(Check check, Supplier<CutLatticeDetect> scene, String call,
            Function<CutLatticeDetect, Object> further) {
        dueSame(check, OF_WITNESS, scene, call, further);
    }

    static void dueSamePath(Check check, Supplier<CutLatticeDetect> scene, String call,
            Function<CutLatticeDetect, Object> further) {
        dueSame(check, OF_PATH, scene, call, further);
    }

    /** All but the witness and the path. */
    static void dueSameState(Check check, Supplier<CutLatticeDetect> scene, String call,
            Function<CutLatticeDetect, Object> further) {
        dueSame(check, OF_STATE, scene, call, further);
    }

    private static void dueSame(Check check, List<Reading> readings, Supplier<CutLatticeDetect> scene, String call,
            Function<CutLatticeDetect, Object> further) {
        for (Reading reading : readings) {
            CutLatticeDetect x = scene.get();
            further.apply(x);
            check.due("the " + reading.name() + " after " + call, reading.read().apply(x),
                    reading.read().apply(scene.get()));
        }
    }

    private static String witnessOf(CutLatticeDetect x) {
        return x.witness(0) + " " + x.witness(1) + " " + x.witness(2) + " " + x.witness(3);
    }

    private static List<Integer> stepsOf(CutLatticeDetect x) {
        List<Integer> all = new ArrayList<>();
        for (int i = 0; i < 24; i++) {
            all.add(x.pathStep(i));
        }
        return all;
    }

    private static String countsOf(CutLatticeDetect x) {
        return x.eventCount(0) + " " + x.eventCount(1) + " " + x.eventCount(2) + " " + x.eventCount(3);
    }

    private static List<Integer> roomOf(CutLatticeDetect x) {
        List<Integer> all = new ArrayList<>();
        for (int p = 0; p < 4; p++) {
            for (int i = 0; i < 7; i++) {
                all.add(x.local(p, i));
            }
        }
        return all;
    }

    private static List<String> stampsOf(CutLatticeDetect x) {
        List<String> all = new ArrayList<>();
        for (int p = 0; p < 4; p++) {
            for (int k = 0; k <= 7; k++) {
                all.add(Scene.stampOf(x, p, k));
            }
        }
        return all;
    }

    private static List<String> nextStampsOf(CutLatticeDetect x) {
        x.receive(3, 1, 0);
        x.receive(1, 2, 0);
        x.local(2, 0);
        return stampsOf(x);
    }

    private static String cutsOf(CutLatticeDetect x) {
        StringBuilder all = new StringBuilder();
        for (int cut = 0; cut < 4096; cut++) {
            all.append(x.cutState(cut >> 9, (cut >> 6) & 7, (cut >> 3) & 7, cut & 7));
        }
        return all.toString();
    }

    private static CutLatticeDetect byBounds(CutLatticeDetect x) {
        x.setPredicate(CutLatticeDetect.MODE_CONJ, 0);
        return x;
    }

    private static List<Integer> countsByValue(CutLatticeDetect x) {
        List<Integer> all = new ArrayList<>();
        byBounds(x);
        for (int p = 0; p < 4; p++) {
            x.setBounds(p, Scene.MIN, Scene.MAX);
        }
        for (int p = 0; p < 4; p++) {
            for (int value : VALUES) {
                x.setBounds(p, value, value);
                all.add(x.countSatisfying());
            }
            x.setBounds(p, Scene.MIN, Scene.MAX);
        }
        return all;
    }

    private static List<Boolean> valuesOf(CutLatticeDetect x) {
        List<Boolean> all = new ArrayList<>();
        for (int p = 0; p < 4; p++) {
            for (int k = 0; k <= Math.max(0, x.eventCount(p)); k++) {
                for (int value : VALUES) {
                    all.add(Scene.hasValue(x, p, k, value));
                }
            }
        }
        return all;
    }

    private static String settableOf(CutLatticeDetect x) {
        return x.setInitial(0, 3) + " " + x.setInitial(1, 3) + " " + x.setInitial(2, 3) + " " + x.setInitial(3, 3);
    }

    private static List<Integer> messagesOf(CutLatticeDetect x) {
        List<Integer> all = new ArrayList<>();
        for (int msg = -1; msg <= 17; msg++) {
            for (int p = 0; p < 4; p++) {
                all.add(x.receive(p, msg, 0));
            }
        }
        return all;
    }
}
