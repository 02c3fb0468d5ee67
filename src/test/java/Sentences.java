import java.util.HashSet;
import java.util.Set;

/** Runs a test for each sentence of the document, and tells the sentences that have none. */
final class Sentences {
    interface Test {
        void run();
    }

    private final Document document;
    private final Set<String> tested = new HashSet<>();
    private String heading = "";

    Sentences(Document document) {
        this.document = document;
    }

    void in(String section) {
        heading = section;
    }

    /** The sentence stands word for word in the section; several tests may be of one sentence. */
    void test(String sentence, Test test) {
        String name = named(heading, sentence);
        int wrongBefore = Check.wrong();
        Check.due("the document says so", document.has(heading, sentence), true);
        int checksBefore = Check.checks();
        try {
            test.run();
        } catch (RuntimeException | AssertionError thrown) {
            Check.due("a call that should answer", thrown.toString(), "an answer");
        }
        Check.due("something is checked", Check.checks() > checksBefore, true);
        if (Check.wrong() > wrongBefore) {
            System.out.println("so this does not hold: " + name);
        }
        tested.add(name);
    }

    void everySentenceHasATest() {
        document.sections().forEach((section, sentences) -> {
            for (String sentence : sentences) {
                String name = named(section, sentence);
                Check.due("a test of " + name, tested.contains(name), true);
            }
        });
    }

    private static String named(String section, String sentence) {
        return section + ": " + sentence;
    }
}
