import java.util.function.Consumer;

/** Runs a test for each sentence that is quoted from the document, and tells which of them are broken. */
final class Sentences {
    private String section = "";
    private int tested = 0;
    private int broken = 0;

    /** The heading under which the sentences that follow stand. */
    void in(String heading) {
        section = heading;
    }

    void test(String quote, Consumer<Check> test) {
        String name = section + ", \"" + quote + "\"";
        Check check = new Check(name);
        boolean ended = endsWithoutFault(test, check);
        tested++;
        if (!ended || !check.isGood()) {
            broken++;
            System.out.println("BROKEN: " + name);
        }
    }

    /** A call that throws breaks its own sentence; the others are still tested. */
    private static boolean endsWithoutFault(Consumer<Check> test, Check check) {
        try {
            test.accept(check);
            return true;
        } catch (RuntimeException | StackOverflowError fault) {
            fault.printStackTrace(System.out);
            return false;
        }
    }

    void end() {
        System.out.println("SentencesTest: " + (tested - broken) + " of " + tested + " sentences hold");
        if (broken != 0 || tested == 0) {
            System.exit(1);
        }
    }
}
