import java.io.IOException;
import java.lang.reflect.Method;
import java.lang.reflect.Modifier;
import java.nio.file.Files;
import java.nio.file.Path;
import java.util.ArrayList;
import java.util.List;
import java.util.Map;
import java.util.TreeMap;
import java.util.regex.Matcher;
import java.util.regex.Pattern;

/** That README.md tells the truth: its calls answer as it says, and its tables have every call. Run from the project's root. */
public final class ReadmeTest {
    private static final Pattern BLOCK = Pattern.compile("```(\\w+)\n(.*?)```", Pattern.DOTALL);
    private static final Pattern CALL = Pattern.compile("x\\.(\\w+)\\((.*?)\\); // (-?\\w+).*");
    private static final Pattern TOLD = Pattern.compile("tell\\(x, works\\); // (-?\\d+).*");
    private static final Pattern ROW = Pattern.compile("(?m)^\\| (\\d+) \\| `(\\w+)\\((.*?)\\)` \\|");
    private static final Pattern PROMISE = Pattern.compile("(?m)^## Promise (\\d+): (.+)$");

    private final Check check = new Check("ReadmeTest");
    private final String page;
    private String works = "";
    private SoapWorks x = new SoapWorks();
    private int calls;

    private ReadmeTest() throws IOException {
        page = Files.readString(Path.of("README.md"));
    }

    public static void main(String[] args) throws IOException, ReflectiveOperationException {
        ReadmeTest test = new ReadmeTest();
        test.callsAnswerAsToldThere();
        test.tablesHaveEveryCall();
        test.testsAreListed();
        test.check.close();
    }

    private void callsAnswerAsToldThere() throws ReflectiveOperationException {
        Matcher block = BLOCK.matcher(page);
        while (block.find()) {
            if (block.group(1).equals("text")) works = block.group(2);
            if (block.group(1).equals("java")) for (String line : block.group(2).split("\n")) follow(line);
        }
        check.due("calls are made on the page", calls > 30, true);
    }

    private void follow(String line) throws ReflectiveOperationException {
        if (line.equals("SoapWorks x = new SoapWorks();")) x = new SoapWorks();
        Matcher told = TOLD.matcher(line);
        if (told.matches()) check.due(line, Check.tell(x, works), Integer.parseInt(told.group(1)));
        if (!line.startsWith("x.")) return;
        Matcher call = CALL.matcher(line);
        check.due("'" + line + "' says its answer", call.matches(), true);
        if (!call.matches()) return;
        calls++;
        Method method = named(call.group(1));
        Object got = method.invoke(x, values(method, call.group(2)));
        check.due("'" + line + "' (it answers " + got + ")", got.toString().equals(call.group(3)), true);
    }

    private static Method named(String name) {
        for (Method method : face()) if (method.getName().equals(name)) return method;
        throw new IllegalStateException("README.md calls " + name + ", which there isn't");
    }

    private static List<Method> face() {
        List<Method> face = new ArrayList<>();
        for (Method method : SoapWorks.class.getDeclaredMethods()) {
            if (Modifier.isPublic(method.getModifiers())) face.add(method);
        }
        return face;
    }

    private static Object[] values(Method method, String told) {
        Class<?>[] types = method.getParameterTypes();
        String[] words = told.isEmpty() ? new String[0] : told.split(", ");
        Object[] values = new Object[words.length];
        for (int i = 0; i < words.length; i++) {
            if (types[i] == boolean.class) values[i] = Boolean.valueOf(words[i]);
            else values[i] = Integer.decode(words[i]);
        }
        return values;
    }

    /** Each promise's call once, under its number, with its parameters; about has a table of its own. */
    private void tablesHaveEveryCall() throws IOException {
        Map<String, String> rows = new TreeMap<>();
        Matcher row = ROW.matcher(page);
        while (row.find()) {
            check.due("one row of " + row.group(2), rows.containsKey(row.group(2)), false);
            rows.put(row.group(2), row.group(1) + " with " + count(row.group(3)));
        }
        check.due("about's row", page.contains("\n| 51 | 0: PEOPLE, 1: KINDS,"), true);
        rows.put("about", "51 with 1");
        String document = Files.readString(Path.of("../shared/DOC.md"));
        Matcher promise = PROMISE.matcher(document);
        int promises = 0;
        while (promise.find()) {
            promises++;
            boolean isNew = promise.group(2).equals("A new object");
            String name = isNew ? "SoapWorks" : promise.group(2).trim();
            int parameters = isNew ? 0 : named(name).getParameterCount();
            String want = promise.group(1) + " with " + parameters;
            check.due("the row of " + name + " is '" + want + "', " + rows.get(name), want.equals(rows.get(name)), true);
        }
        check.due("as many rows as promises", rows.size(), promises);
    }

    private static int count(String parameters) {
        return parameters.isEmpty() ? 0 : parameters.split(", ").length;
    }

    private void testsAreListed() throws IOException {
        try (var files = Files.list(Path.of("src/test/java"))) {
            for (Path file : (Iterable<Path>) files::iterator) {
                String name = file.getFileName().toString().replace(".java", "");
                if (name.endsWith("Test")) check.due(name + " is listed", page.contains("\n| `" + name + "` |"), true);
            }
        }
    }
}
