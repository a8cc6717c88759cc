import java.util.ArrayList;
import java.util.List;

/**
 * Counts the answers that are not as due; every test of the project ends with finish(). Tests of one part
 * of the document stand each beside the sentence that they would see broken, and a sentence of that part
 * that no test quotes is a fault as well.
 */
final class Check {
    private static int calls = 0;
    private static int wrong = 0;
    private static String part = "";
    private static String quote = "";
    private static boolean quoteShown = false;
    private static final List<String> sentences = new ArrayList<>();
    private static final List<String> unquoted = new ArrayList<>();

    private Check() {
    }

    /** What follows tests this part of the document, as Document names it. */
    static void part(String name) {
        part = name;
        if (!Document.isHere()) {
            System.out.println("../shared/DOC.md is not here: the quoted sentences are not compared with it");
            return;
        }
        sentences.addAll(Document.parts().getOrDefault(name, List.of()));
        unquoted.addAll(sentences);
    }

    /** One test: quoted is the sentence that it tests, or the clause of it. */
    static void sentence(String quoted, Runnable test) {
        quote = quoted;
        quoteShown = false;
        if (Document.isHere() && sentences.stream().noneMatch(s -> s.contains(quoted))) {
            fault("this is not in the document");
        }
        unquoted.removeIf(s -> s.contains(quoted));
        int callsBefore = calls;
        try {
            test.run();
        } catch (RuntimeException | StackOverflowError e) {
            fault("ended with " + e);
        }
        if (calls == callsBefore) {
            fault("nothing was tested");
        }
    }

    static void due(String call, long got, long want) {
        calls++;
        if (got != want) {
            fault(call + " answered " + got + ", due is " + want);
        }
    }

    static boolean allAsDue() {
        return wrong == 0;
    }

    static void finish() {
        for (String sentence : unquoted) {
            quote = sentence;
            quoteShown = false;
            fault("no test quotes this");
        }
        System.out.println(calls + " answers, " + wrong + " not as due");
        if (wrong != 0 || calls == 0) {
            System.exit(1);
        }
    }

    private static void fault(String what) {
        wrong++;
        if (!quote.isEmpty() && !quoteShown) {
            System.out.println(part + ": \"" + quote + "\"");
            quoteShown = true;
        }
        System.out.println("    " + what);
    }
}
