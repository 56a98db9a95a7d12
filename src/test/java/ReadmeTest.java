import java.io.IOException;
import java.lang.reflect.Method;
import java.lang.reflect.Modifier;
import java.nio.file.Files;
import java.nio.file.Path;
import java.util.ArrayList;
import java.util.HashMap;
import java.util.List;
import java.util.Map;
import java.util.Random;
import java.util.Set;
import java.util.TreeMap;
import java.util.TreeSet;
import java.util.regex.Matcher;
import java.util.regex.Pattern;
import java.util.stream.Stream;

/** What README.md shows is what the program answers: its calls, its findings, the face, the tests. */
public final class ReadmeTest {
    private static final Path README = Path.of("README.md");
    private static final Path PROGRAM = Path.of("src/main/java/GoodsUnderWay.java");
    private static final Path DOCUMENT = Path.of("../shared/DOC.md");
    private static final Path TESTS = Path.of("src/test/java");
    private static final Pattern NEW = Pattern.compile("GoodsUnderWay x = new GoodsUnderWay\\(\\);");
    private static final Pattern CALL =
            Pattern.compile("(?:int (\\w+) = )?x\\.(\\w+)\\((.*)\\); +// (-?\\d+|[A-Z]+): \\S.*");
    private static final Pattern FINDING = Pattern.compile("\\| ([A-Z]+) \\| (-\\d+) \\| (\\d) \\| \\S.* \\|");
    private static final Pattern ROW = Pattern.compile("\\| (\\d+) \\| `(.*)` \\| \\S.* \\| ([A-Z, ]*)\\|");
    /** A sentence of the document that begins with a finding. */
    private static final Pattern SENTENCE =
            Pattern.compile("[.)] (BEYOND|FULL|KIND|NONE|STATE|MISSING|SIZE|OVER)(?=[.:]| \\()");
    private static final int PROMISES = 42;
    private static final int CALLS = 512;
    private static final int RUNS = 1000;
    /** Beside small numbers: bits of sheets, what is beyond, and what makes a flow go over. */
    private static final int[] ARGUMENTS = {-1, 6, 9, 16, 16, 32, 32, 64, 64, 99, 121, 10000, 2147483647, 2147483647};

    private final List<String> lines = Files.readAllLines(README);
    private final Map<String, Integer> findings = new HashMap<>();
    /** The findings of each call, by the call's name, in the order in which they are told. */
    private final Map<String, List<String>> told = new TreeMap<>();
    private final Map<String, Method> calls = new TreeMap<>();

    private ReadmeTest() throws IOException {
        for (Method method : GoodsUnderWay.class.getDeclaredMethods()) {
            if (Modifier.isPublic(method.getModifiers())) {
                calls.put(method.getName(), method);
            }
        }
    }

    private void findings() {
        for (String line : lines) {
            Matcher row = FINDING.matcher(line);
            if (row.matches()) {
                int which = Integer.parseInt(row.group(3));
                int answer = Integer.parseInt(row.group(2));
                Check.due(row.group(1), Check.BEYOND - which, answer);
                Check.due("its row", findings.size(), which);
                findings.put(row.group(1), answer);
            }
        }
        Check.due("findings", 8, findings.size());
        Check.due("FULL", Check.FULL, findings.get("FULL"));
        Check.due("KIND", Check.KIND, findings.get("KIND"));
        Check.due("NONE", Check.NONE, findings.get("NONE"));
        Check.due("STATE", Check.STATE, findings.get("STATE"));
        Check.due("MISSING", Check.MISSING, findings.get("MISSING"));
        Check.due("SIZE", Check.SIZE, findings.get("SIZE"));
        Check.due("OVER", Check.OVER, findings.get("OVER"));
    }

    /** Each line of a block of Java makes an object, or is a call with its answer. */
    private void examples() throws Exception {
        Map<String, Long> names = new HashMap<>();
        Set<String> shown = new TreeSet<>();
        GoodsUnderWay x = null;
        boolean isJava = false;
        int counted = 0;
        for (String line : lines) {
            if (line.startsWith("```")) {
                isJava = line.equals("```java");
            } else if (isJava && NEW.matcher(line).matches()) {
                x = new GoodsUnderWay();
                names.clear();
                counted = 0;
            } else if (isJava) {
                Matcher call = CALL.matcher(line);
                boolean isCall = x != null && call.matches() && calls.containsKey(call.group(2));
                Check.holds("a call with its answer: " + line, isCall);
                if (isCall) {
                    Check.due("README, " + line, due(call.group(4)), answer(x, call, names));
                    shown.add(call.group(2));
                    counted++;
                    Check.holds("an object is for 512 calls", counted <= CALLS);
                }
            }
        }
        Check.holds("each call is shown, but not " + missing(calls.keySet(), shown), shown.containsAll(calls.keySet()));
    }

    private long due(String shown) {
        Integer finding = findings.get(shown);
        return finding == null ? Long.parseLong(shown) : finding;
    }

    private static Set<String> missing(Set<String> due, Set<String> got) {
        Set<String> rest = new TreeSet<>(due);
        rest.removeAll(got);
        return rest;
    }

    private long answer(GoodsUnderWay x, Matcher call, Map<String, Long> names) throws Exception {
        Method method = calls.get(call.group(2));
        Class<?>[] types = method.getParameterTypes();
        String[] parts = call.group(3).isEmpty() ? new String[0] : call.group(3).split(", ");
        Check.due("arguments of " + call.group(), types.length, parts.length);
        Object[] arguments = new Object[types.length];
        for (int i = 0; i < types.length; i++) {
            boolean isLong = parts[i].endsWith("L");
            Check.holds("a long where one is due: " + call.group(), isLong == (types[i] == long.class));
            String number = isLong ? parts[i].substring(0, parts[i].length() - 1) : parts[i];
            long v = names.containsKey(number) ? names.get(number) : Long.decode(number);
            arguments[i] = isLong ? (Object) v : (Object) (int) v;
        }
        long answer = ((Number) method.invoke(x, arguments)).longValue();
        if (call.group(1) != null) {
            names.put(call.group(1), answer);
        }
        return answer;
    }

    /** The table of calls: in the promises' order, as the program declares them. */
    private void face() throws IOException {
        String program = Files.readString(PROGRAM);
        int promise = 0;
        for (String line : lines) {
            Matcher row = ROW.matcher(line);
            if (row.matches()) {
                promise++;
                Check.due("the promise of " + row.group(2), promise, Integer.parseInt(row.group(1)));
                Check.holds("the program has " + row.group(2), program.contains("    public " + row.group(2) + " {\n"));
                String name = row.group(2).replaceAll("^(int |long )|\\(.*", "");
                List<String> list = row.group(3).isBlank() ? List.of() : List.of(row.group(3).trim().split(", "));
                Check.holds("findings of " + row.group(2) + " as in the document: " + list,
                        list.equals(documented(promise, row.group(2))));
                told.put(name, list);
            }
        }
        Check.due("promises", PROMISES, promise);
        Check.holds("all calls are told", told.keySet().containsAll(calls.keySet()));
    }

    /** The findings that begin a sentence of a promise. */
    private static List<String> documented(int promise, String face) throws IOException {
        String document = Files.readString(DOCUMENT);
        int from = document.indexOf("## Promise " + promise + ":");
        int to = document.indexOf("\n## ", from + 1);
        String text = document.substring(from, to);
        Check.holds("the document has " + face, text.contains("`" + face + "`"));
        List<String> list = new ArrayList<>();
        Matcher finding = SENTENCE.matcher(text);
        // A sentence's end may be the next one's begin, so the search goes on right behind the word.
        for (int at = 0; finding.find(at); at = finding.end()) {
            list.add(finding.group(1));
        }
        return list;
    }

    /** Any calls: what findings each answers is what the table tells. */
    private void answered() throws Exception {
        Map<String, Set<String>> got = new TreeMap<>();
        List<String> names = new ArrayList<>(calls.keySet());
        Random random = new Random(20261118);
        for (int run = 0; run < RUNS; run++) {
            GoodsUnderWay x = new GoodsUnderWay();
            List<String> used = new ArrayList<>(List.of("station", "line", "sheet", "write", "feed"));
            for (int i = 0; i < 6; i++) {
                used.add(names.get(random.nextInt(names.size())));
            }
            for (int i = 0; i < CALLS; i++) {
                String name = used.get(random.nextInt(used.size()));
                note(got, name, any(x, calls.get(name), random));
            }
        }
        for (String name : calls.keySet()) {
            Set<String> due = new TreeSet<>(told.get(name));
            if (name.equals("begin")) {
                due.remove("NONE");
            } else if (name.equals("go") || name.equals("run")) {
                due.remove("STATE");
            }
            Set<String> ever = got.getOrDefault(name, Set.of());
            Check.holds(name + " answers " + ever + ", due is " + due, due.equals(ever));
        }
    }

    private static long any(GoodsUnderWay x, Method method, Random random) throws Exception {
        Class<?>[] types = method.getParameterTypes();
        Object[] arguments = new Object[types.length];
        for (int i = 0; i < types.length; i++) {
            int v = random.nextInt(4) > 0 ? random.nextInt(4) : ARGUMENTS[random.nextInt(ARGUMENTS.length)];
            arguments[i] = types[i] == long.class ? (Object) (long) v : (Object) v;
        }
        return ((Number) method.invoke(x, arguments)).longValue();
    }

    private void note(Map<String, Set<String>> got, String name, long answer) {
        for (Map.Entry<String, Integer> finding : findings.entrySet()) {
            if (finding.getValue() == answer) {
                got.computeIfAbsent(name, key -> new TreeSet<>()).add(finding.getKey());
            }
        }
    }

    /** Every test with a main method has its line, and every line its test. */
    private void tests() throws IOException {
        Set<String> there = new TreeSet<>();
        try (Stream<Path> files = Files.list(TESTS)) {
            for (Path file : (Iterable<Path>) files::iterator) {
                if (Files.readString(file).contains("static void main(")) {
                    there.add(file.getFileName().toString().replace(".java", ""));
                }
            }
        }
        Set<String> listed = new TreeSet<>();
        String list = String.join("\n", lines.subList(lines.indexOf("## Tests"), lines.size()));
        Matcher name = Pattern.compile("`(\\w+Test)`").matcher(list);
        while (name.find()) {
            listed.add(name.group(1));
        }
        Check.holds("tests that are there: " + there + ", listed: " + listed, there.equals(listed));
    }

    public static void main(String[] args) throws Exception {
        ReadmeTest test = new ReadmeTest();
        test.findings();
        test.examples();
        test.face();
        test.answered();
        test.tests();
        Check.end();
    }
}
