import java.io.IOException;
import java.nio.file.Files;
import java.nio.file.Path;
import java.util.ArrayList;
import java.util.Comparator;
import java.util.List;
import java.util.Map;
import java.util.concurrent.ExecutionException;
import java.util.concurrent.ExecutorService;
import java.util.concurrent.Executors;
import java.util.concurrent.Future;
import java.util.concurrent.TimeUnit;
import java.util.regex.Matcher;
import java.util.regex.Pattern;
import java.util.stream.Stream;
import javax.tools.ToolProvider;

/**
 * Breaks the class in one place at a time and tells which breaks no test notices: a test is wanted for each of these, or it
 * makes no difference. Takes some minutes, so .ci/run leaves it out: java -cp CLASSES Mutants [TEST ..], from the project's root.
 */
public final class Mutants {
    private static final Path SOURCE = Path.of("src/main/java/SoapWorks.java");
    private static final List<String> EDGES = List.of("TextEdgesTest", "WorksEdgesTest", "AheadEdgesTest", "SeenEdgesTest");
    private static final Map<String, String[]> INSTEAD = Map.ofEntries(
            Map.entry("<", new String[] {"<=", ">="}), Map.entry("<=", new String[] {"<", ">"}),
            Map.entry(">", new String[] {">=", "<="}), Map.entry(">=", new String[] {">", "<"}),
            Map.entry("==", new String[] {"!="}), Map.entry("!=", new String[] {"=="}),
            Map.entry("&&", new String[] {"||"}), Map.entry("||", new String[] {"&&"}),
            Map.entry("+", new String[] {"-"}), Map.entry("-", new String[] {"+"}), Map.entry("*", new String[] {"+"}),
            Map.entry("/", new String[] {"*"}), Map.entry("%", new String[] {"+"}),
            Map.entry("+=", new String[] {"-="}), Map.entry("-=", new String[] {"+="}),
            Map.entry("++", new String[] {"--"}), Map.entry("--", new String[] {"++"}),
            Map.entry("|=", new String[] {"^=", "&="}), Map.entry("&=", new String[] {"|="}),
            Map.entry("<<", new String[] {">>"}), Map.entry(">>", new String[] {"<<"}),
            Map.entry("|", new String[] {"&", "^"}), Map.entry("&", new String[] {"|"}), Map.entry("^", new String[] {"|"}),
            Map.entry("!", new String[] {""}), Map.entry("~", new String[] {""}),
            Map.entry("true", new String[] {"false"}), Map.entry("false", new String[] {"true"}),
            Map.entry("min", new String[] {"max"}), Map.entry("max", new String[] {"min"}),
            Map.entry("continue", new String[] {"break"}));
    private static final Pattern SIGNS = Pattern.compile(
            "\\+\\+|--|<<|>>|<=|>=|==|!=|&&|\\|\\||\\+=|-=|\\|=|&=|[<>+\\-*/%|&^!~]|\\b(?:true|false|min|max|continue)\\b");
    private static final Pattern STATEMENT = Pattern.compile(
            "(?m)^ +((?!return|int |long |boolean |final |private |static |import |break|continue|Plan |Tape |case |default)[^\\n{}]*;)$");

    private record Mutant(int from, int to, String instead) {
    }

    private final String source;
    private final String bare;
    private final List<Mutant> mutants = new ArrayList<>();
    private final List<String> tests;
    private final Path room = Files.createTempDirectory("mutants");

    private Mutants(List<String> tests) throws IOException {
        this.tests = tests;
        source = Files.readString(SOURCE);
        Matcher unread = Pattern.compile("(?s)/\\*.*?\\*/|//[^\\n]*|\"[^\"\\n]*\"|'[^'\\n]'|import[^\\n]*").matcher(source);
        bare = unread.replaceAll(found -> found.group().replaceAll("[^\\n]", " "));
    }

    public static void main(String[] args) throws IOException, InterruptedException, ExecutionException {
        new Mutants(args.length == 0 ? EDGES : List.of(args)).run();
    }

    private void run() throws IOException, InterruptedException, ExecutionException {
        breakNumbers();
        breakSigns();
        breakConditions();
        leaveOutStatements();
        ExecutorService workers = Executors.newFixedThreadPool(Runtime.getRuntime().availableProcessors());
        List<Future<Boolean>> unnoticed = new ArrayList<>();
        for (int i = 0; i < mutants.size(); i++) {
            int number = i;
            unnoticed.add(workers.submit(() -> isUnnoticed(number)));
        }
        int count = 0;
        for (int i = 0; i < mutants.size(); i++) {
            if (!unnoticed.get(i).get()) continue;
            count++;
            tellOf(mutants.get(i));
        }
        workers.shutdown();
        remove(room);
        System.out.println(count + " of " + mutants.size() + " mutants are not noticed by " + tests);
    }

    private void breakNumbers() {
        Matcher found = Pattern.compile("(?<![\\w.])\\d+(?![\\w.])").matcher(bare);
        while (found.find()) {
            int number = Integer.parseInt(found.group());
            mutants.add(new Mutant(found.start(), found.end(), "" + (number + 1)));
            mutants.add(new Mutant(found.start(), found.end(), "(" + (number - 1) + ")"));
        }
    }

    private void breakSigns() {
        Matcher found = SIGNS.matcher(bare);
        while (found.find()) {
            for (String instead : INSTEAD.get(found.group())) mutants.add(new Mutant(found.start(), found.end(), instead));
        }
    }

    /** So that javac does not see that it is always so, or never. */
    private void breakConditions() {
        Matcher found = Pattern.compile("\\bif \\(").matcher(bare);
        while (found.find()) {
            int end = found.end();
            for (int open = 1; open > 0; end++) open += bare.charAt(end) == '(' ? 1 : bare.charAt(end) == ')' ? -1 : 0;
            String condition = source.substring(found.end(), end - 1);
            mutants.add(new Mutant(found.end(), end - 1, "Integer.bitCount(3) == 2 || (" + condition + ")"));
            mutants.add(new Mutant(found.end(), end - 1, "Integer.bitCount(3) == 3 && (" + condition + ")"));
        }
    }

    private void leaveOutStatements() {
        Matcher found = STATEMENT.matcher(bare);
        while (found.find()) mutants.add(new Mutant(found.start(1), found.end(1), ";"));
    }

    private boolean isUnnoticed(int number) throws IOException, InterruptedException {
        Mutant mutant = mutants.get(number);
        Path here = Files.createDirectory(room.resolve("" + number));
        Path file = here.resolve("SoapWorks.java");
        Files.writeString(file, source.substring(0, mutant.from) + mutant.instead + source.substring(mutant.to));
        boolean compiles = ToolProvider.getSystemJavaCompiler().run(null, java.io.OutputStream.nullOutputStream(),
                java.io.OutputStream.nullOutputStream(), "-d", here.toString(), file.toString()) == 0;
        boolean passes = compiles;
        for (int i = 0; i < tests.size() && passes; i++) passes = passes(here, tests.get(i));
        remove(here);
        return passes;
    }

    private static boolean passes(Path here, String test) throws IOException, InterruptedException {
        String path = here + java.io.File.pathSeparator + System.getProperty("java.class.path");
        Process process = new ProcessBuilder("java", "-XX:+UseSerialGC", "-XX:TieredStopAtLevel=1", "-cp", path, test)
                .redirectErrorStream(true).redirectOutput(ProcessBuilder.Redirect.DISCARD).start();
        boolean ended = process.waitFor(60, TimeUnit.SECONDS);
        if (!ended) process.destroyForcibly().waitFor();
        return ended && process.exitValue() == 0;
    }

    private void tellOf(Mutant mutant) {
        int line = (int) source.substring(0, mutant.from).chars().filter(c -> c == '\n').count();
        System.out.println((line + 1) + ": '" + source.substring(mutant.from, mutant.to) + "' as '" + mutant.instead + "' in: "
                + source.split("\n", -1)[line].trim());
    }

    private static void remove(Path path) throws IOException {
        try (Stream<Path> all = Files.walk(path)) {
            for (Path each : all.sorted(Comparator.reverseOrder()).toList()) Files.delete(each);
        }
    }
}
