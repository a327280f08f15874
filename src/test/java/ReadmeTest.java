import java.lang.reflect.Method;
import java.nio.file.Files;
import java.nio.file.Path;
import java.util.ArrayList;
import java.util.Arrays;
import java.util.List;
import java.util.Map;
import java.util.Set;
import java.util.TreeMap;
import java.util.TreeSet;
import java.util.regex.Matcher;
import java.util.regex.Pattern;
import java.util.stream.Stream;

/** What README.md shows as a use of the class, with the answers that it gives; and what it says of the calls. */
public final class ReadmeTest {
    private static final Due DUE = new Due();
    private static final Pattern MADE = Pattern.compile("StairLines x = new StairLines\\(\\);");
    private static final Pattern FED =
        Pattern.compile("for \\(char c : \"([^\"]*)\"\\.toCharArray\\(\\)\\) x\\.feed\\(c\\);  // (-?\\d+)(: .*)?");
    private static final Pattern CALL = Pattern.compile("x\\.(\\w+)\\(([-\\d, ]*)\\); *// (-?\\w+)(: .*)?");
    private static final Pattern ROW = Pattern.compile("\\| (\\d+) \\| `(\\w+)\\((.*?)\\)` \\|(.*)\\|(.*)\\|(.*)\\|");
    private static final Map<String, Integer> NAMED = Map.of("NONE", -1, "BAD", -2, "STATE", -3, "FULL", -4);
    private static final Set<Integer> REFUSALS = Set.of(-2, -3, -4, -11, -12, -13, -14);
    private static final int[] VALUES = {-1, 0, 1, 2, 3, 5, 10, 41};
    private static final int[] FEW_VALUES = {-1, 0, 1, 3, 9};

    public static void main(String[] args) throws Exception {
        examples();
        codes();
        callsAreAllThere();
        askingChangesNothing();
        theOthersChangeSomething();
        refusals();
        files();
        DUE.end();
    }

    private static List<String> lines() throws Exception {
        return Files.readAllLines(Path.of("README.md"));
    }

    // ---- what it shows

    /** Each line of each block of Java is a new object or a call with its answer; the plain model answers so, too. */
    private static void examples() throws Exception {
        boolean inBlock = false;
        int blocks = 0;
        Set<String> shown = new TreeSet<>();
        StairLines x = null;
        PlainModel m = null;
        for (String line : lines()) {
            if (line.startsWith("```")) {
                inBlock = line.equals("```java");
                blocks += inBlock ? 1 : 0;
            } else if (inBlock && MADE.matcher(line).matches()) {
                x = new StairLines();
                m = new PlainModel();
            } else if (inBlock) {
                shown.add(shownCall(x, m, line));
            }
        }
        DUE.is("blocks of Java", blocks, 6);
        DUE.holds("all calls are shown: " + shown, shown.equals(new TreeSet<>(faceCalls().keySet())));
    }

    private static String shownCall(StairLines x, PlainModel m, String line) throws Exception {
        Matcher fed = FED.matcher(line);
        if (fed.matches()) {
            int got = 0;
            int model = 0;
            for (char c : fed.group(1).toCharArray()) {
                got = x.feed(c);
                model = m.feed(c);
            }
            DUE.is(line + " of the class", got, Integer.parseInt(fed.group(2)));
            DUE.is(line + " of the model", model, Integer.parseInt(fed.group(2)));
            return "feed";
        }
        Matcher call = CALL.matcher(line);
        DUE.holds("a call with its answer: " + line, call.matches());
        int[] values = numbers(call.group(2));
        String answer = call.group(3);
        int due = NAMED.containsKey(answer) ? NAMED.get(answer) : Integer.parseInt(answer);
        DUE.is(line + " of the class", made(x, call.group(1), values), due);
        DUE.is(line + " of the model", made(m, call.group(1), values), due);
        return call.group(1);
    }

    private static int[] numbers(String list) {
        return list.isEmpty() ? new int[0] : Arrays.stream(list.split(", ")).mapToInt(Integer::parseInt).toArray();
    }

    private static int made(Object on, String name, int... values) throws Exception {
        Class<?>[] types = new Class<?>[values.length];
        Arrays.fill(types, int.class);
        Method call = on.getClass().getDeclaredMethod(name, types);
        return (int) (Integer) call.invoke(on, Arrays.stream(values).boxed().toArray());
    }

    // ---- what it says of the calls

    private static void codes() throws Exception {
        List<String> rows = new ArrayList<>();
        for (String line : lines()) {
            Matcher row = Pattern.compile("\\| ([A-Z]+, )?(-\\d+) \\| [^|]* \\|").matcher(line);
            if (row.matches()) {
                rows.add((row.group(1) == null ? "" : row.group(1)) + row.group(2));
            }
        }
        DUE.holds("the refusals are " + rows,
            rows.equals(List.of("BAD, -2", "STATE, -3", "FULL, -4", "-11", "-12", "-13", "-14")));
        DUE.is("BAD", StairLines.BAD, -2);
        DUE.is("STATE", StairLines.STATE, -3);
        DUE.is("FULL", StairLines.FULL, -4);
        DUE.is("NONE", StairLines.NONE, -1);
    }

    /** The calls of the document by their names: their numbers' names. */
    private static Map<String, String> faceCalls() throws Exception {
        Map<String, String> calls = new TreeMap<>();
        Matcher face = Pattern.compile("    public int (\\w+)\\(([^)]*)\\);").matcher(Files.readString(Path.of("../shared/DOC.md")));
        while (face.find()) {
            calls.put(face.group(1), face.group(2).replace("int ", ""));
        }
        DUE.is("calls of the document", calls.size(), 28);
        return calls;
    }

    /** The rows of the table of calls that stands behind these words. */
    private static List<Matcher> rows(String behind) throws Exception {
        List<Matcher> rows = new ArrayList<>();
        boolean here = false;
        for (String line : lines()) {
            Matcher row = ROW.matcher(line);
            if (here && row.matches()) {
                rows.add(row);
            }
            here = line.startsWith(behind) || here && (line.isEmpty() || line.startsWith("|"));
        }
        return rows;
    }

    private static List<Matcher> changing() throws Exception {
        return rows("Calls that change the object, if they are not refused:");
    }

    private static List<Matcher> asking() throws Exception {
        return rows("Calls that only ask:");
    }

    private static List<Matcher> allRows() throws Exception {
        List<Matcher> rows = new ArrayList<>(changing());
        rows.addAll(asking());
        return rows;
    }

    private static void callsAreAllThere() throws Exception {
        Map<String, String> calls = faceCalls();
        String document = Files.readString(Path.of("../shared/DOC.md"));
        for (Matcher row : allRows()) {
            DUE.holds(row.group(2) + " takes these", row.group(3).equals(calls.remove(row.group(2))));
            String promise = "## Promise " + row.group(1) + ": " + row.group(2) + "\n";
            DUE.holds(promise, document.contains(promise));
        }
        DUE.holds("none is left out: " + calls.keySet(), calls.isEmpty());
    }

    private interface With {
        boolean goOnBehind(int... values) throws Exception;
    }

    /** Tries the call with all of some values, till it has seen enough. */
    private static void withValues(Matcher row, With with) throws Exception {
        int numbers = numberOf(row);
        int[] values = numbers > 3 ? FEW_VALUES : VALUES;
        int ways = 1;
        for (int i = 0; i < numbers; i++) {
            ways *= values.length;
        }
        boolean more = true;
        for (int way = 0; way < ways && more; way++) {
            int[] picked = new int[numbers];
            for (int i = 0, rest = way; i < numbers; i++, rest /= values.length) {
                picked[i] = values[rest % values.length];
            }
            more = with.goOnBehind(picked);
        }
    }

    private static int numberOf(Matcher row) {
        return row.group(3).isEmpty() ? 0 : row.group(3).split(", ").length;
    }

    private static void askingChangesNothing() throws Exception {
        List<Integer> untouched = Edges.all(Edges.busy());
        for (Matcher row : asking()) {
            withValues(row, values -> {
                StairLines x = Edges.busy();
                made(x, row.group(2), values);
                DUE.holds(row.group(2) + Arrays.toString(values) + " changes nothing", Edges.all(x).equals(untouched));
                return true;
            });
        }
    }

    private static void theOthersChangeSomething() throws Exception {
        List<Integer> untouched = Edges.all(Edges.busy());
        for (Matcher row : changing()) {
            boolean[] changes = new boolean[1];
            withValues(row, values -> {
                StairLines x = Edges.busy();
                made(x, row.group(2), values);
                changes[0] |= !Edges.all(x).equals(untouched);
                return !changes[0];
            });
            DUE.holds(row.group(2) + " changes something", changes[0]);
        }
    }

    private static StairLines objectOf(int kind) {
        switch (kind) {
            case 0:
                return Edges.fresh();
            case 1:
                return Edges.busy();
            case 2:
                return Edges.full();
            default:
                return Edges.crowded(3, 40);
        }
    }

    /** Each call refuses by what its row names, and by nothing else; only classes changes something then. */
    private static void refusals() throws Exception {
        List<List<Integer>> untouched = new ArrayList<>();
        for (int kind = 0; kind < 4; kind++) {
            untouched.add(Edges.all(objectOf(kind)));
        }
        for (Matcher row : allRows()) {
            Set<Integer> seen = new TreeSet<>();
            for (int kind = 0; kind < 4; kind++) {
                int of = kind;
                withValues(row, values -> {
                    StairLines x = objectOf(of);
                    int answer = made(x, row.group(2), values);
                    if (REFUSALS.contains(answer) && seen.add(answer) && !row.group(2).equals("classes")) {
                        DUE.holds(row.group(2) + Arrays.toString(values) + ", refused, changes nothing",
                            Edges.all(x).equals(untouched.get(of)));
                    }
                    return true;
                });
            }
            Set<Integer> named = new TreeSet<>();
            for (String name : row.group(6).trim().split("; ")) {
                if (!name.isEmpty()) {
                    named.add(NAMED.containsKey(name) ? NAMED.get(name) : Integer.parseInt(name));
                }
            }
            DUE.holds(row.group(2) + " refuses by " + seen + ", named are " + named, seen.equals(named));
        }
    }

    // ---- what it says of the files

    private static void files() throws Exception {
        Set<String> named = new TreeSet<>();
        for (String line : lines()) {
            Matcher path = Pattern.compile("`((?:\\.\\./|src/)[^`]*)`").matcher(line);
            while (path.find()) {
                DUE.holds("there is " + path.group(1), Files.exists(Path.of(path.group(1))));
            }
            Matcher row = Pattern.compile("\\| `(\\w+Test)` \\| [^|]* \\|").matcher(line);
            if (row.matches()) {
                named.add(row.group(1) + ".java");
            }
        }
        Set<String> there = new TreeSet<>();
        try (Stream<Path> files = Files.list(Path.of("src/test/java"))) {
            files.map(file -> file.getFileName().toString()).filter(file -> file.endsWith("Test.java")).forEach(there::add);
        }
        DUE.holds("the tests named are those there: " + named + ", " + there, named.equals(there));
    }
}
