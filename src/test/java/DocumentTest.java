import java.io.IOException;
import java.nio.file.Files;
import java.nio.file.Path;
import java.util.List;
import java.util.stream.Stream;

/** Every part of the document has a test class of its own; that class sees to the part's sentences. */
final class DocumentTest {
    public static void main(String[] args) throws IOException {
        if (!Document.isHere()) {
            System.out.println("../shared/DOC.md is not here: its parts are not looked at");
            return;
        }
        String tests = allTests();
        Check.due("parts seen: what it is, nine of the Terms, seventeen promises", Document.parts().size(), 27);
        for (String part : Document.parts().keySet()) {
            Check.due("tests for the part " + part, tests.contains("Check.part(\"" + part + "\");") ? 1 : 0, 1);
        }
        Check.finish();
    }

    private static String allTests() throws IOException {
        try (Stream<Path> paths = Files.list(Path.of("src/test/java"))) {
            List<Path> files = paths.filter(p -> p.toString().endsWith("Test.java")).toList();
            StringBuilder text = new StringBuilder();
            for (Path file : files) {
                text.append(Files.readString(file));
            }
            return text.toString();
        }
    }
}
