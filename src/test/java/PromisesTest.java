import java.nio.file.Files;
import java.nio.file.Path;
import java.util.ArrayList;
import java.util.List;
import java.util.Set;
import java.util.TreeSet;
import java.util.regex.Matcher;
import java.util.regex.Pattern;
import java.util.stream.Stream;

/** Each promise of the document is named by a test, alone and at its edges. */
public final class PromisesTest {
    private static final Due DUE = new Due();
    private static final Pattern NAMED = Pattern.compile("DUE\\.promise\\(([^)]*)\\);");

    public static void main(String[] args) throws Exception {
        Set<Integer> promises = promisesOfTheDocument();
        DUE.is("promises of the document", promises.size(), 29);
        Set<Integer> plain = named(false);
        Set<Integer> edges = named(true);
        for (int promise : promises) {
            DUE.holds("a test names promise " + promise, plain.contains(promise));
            DUE.holds("a test of edges names promise " + promise, edges.contains(promise));
        }
        DUE.holds("no other is named", promises.containsAll(plain) && promises.containsAll(edges));
        DUE.end();
    }

    private static Set<Integer> promisesOfTheDocument() throws Exception {
        Set<Integer> promises = new TreeSet<>();
        for (String line : Files.readAllLines(Path.of("../shared/DOC.md"))) {
            Matcher heading = Pattern.compile("## Promise (\\d+): .*").matcher(line);
            if (heading.matches()) {
                promises.add(Integer.parseInt(heading.group(1)));
            }
        }
        return promises;
    }

    private static Set<Integer> named(boolean atEdges) throws Exception {
        Set<Integer> promises = new TreeSet<>();
        for (Path test : tests()) {
            if (test.getFileName().toString().startsWith("EdgesOf") == atEdges) {
                Matcher named = NAMED.matcher(Files.readString(test));
                while (named.find()) {
                    for (String number : named.group(1).split(", ")) {
                        promises.add(Integer.parseInt(number));
                    }
                }
            }
        }
        return promises;
    }

    private static List<Path> tests() throws Exception {
        List<Path> tests = new ArrayList<>();
        try (Stream<Path> files = Files.list(Path.of("src/test/java"))) {
            files.filter(file -> file.toString().endsWith("Test.java")).filter(file -> !file.endsWith("PromisesTest.java"))
                .forEach(tests::add);
        }
        return tests;
    }
}
