import java.util.function.Consumer;

/** Runs one test for each sentence of the document, and tells which sentences are broken. */
final class Sentences {
    private int tested = 0;
    private int broken = 0;

    void holds(String sentence, Consumer<Checks> test) {
        Checks c = new Checks();
        boolean kept;
        try {
            test.accept(c);
            kept = c.allAsDue();
        } catch (RuntimeException thrown) {
            // No call may throw; the sentences after this one are still to be tested.
            System.out.println("thrown: " + thrown);
            kept = false;
        }
        tested++;
        if (!kept) {
            broken++;
            System.out.println("BROKEN: " + sentence);
        }
    }

    void end() {
        System.out.println(tested + " sentences, " + broken + " broken");
        if (broken != 0 || tested == 0) {
            System.exit(1);
        }
    }
}
