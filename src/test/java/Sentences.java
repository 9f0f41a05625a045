import java.util.function.Consumer;

/**
 * Runs a test for each sentence of a section of the document. A section's sentences are numbered from 1
 * as they stand there; each condition of a list counts as one.
 */
abstract class Sentences extends Calls {
    private static String section;
    private static int tested;
    private static int broken;

    static void section(String name) {
        section = name;
    }

    static void holds(int number, String words, Consumer<Checks> test) {
        Checks is = new Checks();
        boolean ended = false;
        try {
            test.accept(is);
            ended = true;
        } catch (RuntimeException thrown) {
            System.out.println("thrown: " + thrown);
        }
        tested++;
        // A test that looked at nothing would pass whatever the class does.
        if (!ended || is.wrong() > 0 || is.made() == 0) {
            broken++;
            System.out.println("DOES NOT HOLD: " + section + ", sentence " + number + ": " + words);
        }
    }

    static void end() {
        System.out.println(broken == 0 ? tested + " sentences hold"
            : broken + " of " + tested + " sentences do not hold");
        if (broken != 0) {
            System.exit(1);
        }
    }
}
