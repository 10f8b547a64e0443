import java.io.IOException;
import java.nio.file.Files;
import java.nio.file.Path;
import java.util.ArrayList;
import java.util.List;
import java.util.regex.Matcher;
import java.util.regex.Pattern;
import java.util.stream.Stream;

/** Of every promise, and of every block of the terms, at least one sentence has a test of its own. */
public final class SentencesTest {
    public static void main(String[] args) throws IOException {
        String document = Files.readString(Path.of(System.getProperty("document", "../shared/DOC.md")));
        List<String> quoted = quotes(Path.of(System.getProperty("tests", "src/test/java")));
        Due.yes("sentences: " + quoted.size(), quoted.size() > 100);
        String[] promises = document.split("\n## Promise ");
        Due.is("promises", promises.length - 1, 34);
        for (int i = 1; i < promises.length; i++) {
            String end = promises[i].split("\n## Not promised")[0];
            Due.yes("promise " + i, quoted.stream().anyMatch(end::contains));
        }
        Matcher name = Pattern.compile("\\b(A TERRACE|A ROTA|THE LAW|A DAY|THE SHORTEST ROTA|READ|ROTAS|KEPT): [^\n]*").matcher(promises[0]);
        int blocks = 0;
        while (name.find()) {
            String block = name.group();
            Due.yes(name.group(1), quoted.stream().anyMatch(block::contains));
            blocks++;
        }
        Due.is("blocks of the terms", blocks, 8);
        Due.end("SentencesTest");
    }

    private static List<String> quotes(Path tests) throws IOException {
        List<String> quoted = new ArrayList<>();
        try (Stream<Path> files = Files.list(tests)) {
            for (Path file : files.filter(each -> each.toString().endsWith(".java")).toList()) {
                Matcher says = Pattern.compile("(?:Due\\.says|reads)\\(\"([^\"]*)\"").matcher(Files.readString(file));
                while (says.find()) {
                    quoted.add(says.group(1));
                }
            }
        }
        return quoted;
    }
}
