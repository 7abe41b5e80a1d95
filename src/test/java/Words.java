import java.util.ArrayList;
import java.util.List;

/** The sentences of the document that a test goes through, each said ahead of what it asks for. */
final class Words {
    private static final List<String> SAID = new ArrayList<>();

    private Words() {
    }

    static void says(String sentence) {
        SAID.add(sentence);
    }

    static void due(String call, long got, long want) {
        Check.due("\"" + SAID.get(SAID.size() - 1) + "\": " + call, got, want);
    }

    static void same(String what, String got, String want) {
        Check.same("\"" + SAID.get(SAID.size() - 1) + "\": " + what, got, want);
    }

    /** With the argument "words" a test tells them all, so that they can be laid beside the document. */
    static void end(String test, String[] args) {
        if (args.length > 0 && args[0].equals("words")) {
            for (String sentence : SAID) {
                System.out.println(sentence);
            }
        }
        Check.end(test);
    }
}
