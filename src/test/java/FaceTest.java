import java.io.IOException;
import java.lang.reflect.Constructor;
import java.lang.reflect.Field;
import java.lang.reflect.Member;
import java.lang.reflect.Method;
import java.lang.reflect.Modifier;
import java.nio.file.Files;
import java.nio.file.Path;
import java.util.ArrayList;
import java.util.Arrays;
import java.util.List;
import java.util.Set;
import java.util.TreeSet;
import java.util.regex.Matcher;
import java.util.regex.Pattern;

/** The public face, and what of LANGUAGE.md can be seen from outside. Run from the project's root. */
public final class FaceTest {
    private static final Check CHECK = new Check("FaceTest");
    private static final String[] FACE = {
        "int feed(int,int,int,int,int)", "int end(int)", "int works()", "int fault(int)", "int vat(int)",
        "int mind(int,int)", "int wants(int,int)", "int rule(int,int)", "int confess(int)", "int boil()", "int wash(int)",
        "int sweep(int)", "boolean undo()", "boolean redo()", "int will(int,int,int)", "int rise()", "int rouser(int)",
        "int choir(int,int)", "int power(int)", "int serve(int)", "int balm(int,int)", "int cook(int)", "int lacks(int)",
        "int rest()", "int order(int)", "int comes(int)", "int steps(int,int)", "int duel(int,int)", "int nearest()",
        "int wanted(int)", "int sinners(int)", "int inert()", "int alive()", "int thickest()", "int thinnest()",
        "int makers(int)", "int heaviest()", "int law(int)", "int mission()", "int odds(int,int)", "int lies(int)",
        "int seen(int,int,int,boolean)", "boolean untell(int)", "int later(int)", "int fits(int)", "int sure(int,int)",
        "int ask(int,int,int)", "int image(int)", "int back(int)", "int about(int)"};

    public static void main(String[] args) throws IOException {
        documentsFace(Files.readString(Path.of("../shared/DOC.md")));
        face();
        members();
        source(Files.readString(Path.of("src/main/java/SoapWorks.java")));
        CHECK.close();
    }

    /** The face that is held against the class is the document's, in its order. */
    private static void documentsFace(String document) {
        Matcher method = Pattern.compile("(?m)^    public (\\w+ \\w+\\(.*\\));$").matcher(document);
        int i = 0;
        for (; method.find(); i++) {
            String told = method.group(1).replaceAll("(int|boolean) \\w+([,)])", "$1$2").replace(", ", ",");
            CHECK.due("the document's " + told, i < FACE.length && told.equals(FACE[i]), true);
        }
        CHECK.due("the document's methods", i, FACE.length);
    }

    private static void face() {
        Class<?> face = SoapWorks.class;
        CHECK.due("public", Modifier.isPublic(face.getModifiers()), true);
        CHECK.due("final", Modifier.isFinal(face.getModifiers()), true);
        CHECK.due("NONE", SoapWorks.NONE, -1);
        Set<String> methods = new TreeSet<>();
        for (Method method : face.getDeclaredMethods()) {
            if (!Modifier.isPrivate(method.getModifiers())) methods.add(told(method));
        }
        Set<String> due = new TreeSet<>(Arrays.asList(FACE));
        CHECK.due("methods " + methods, methods.equals(due), true);
        CHECK.due("constructors", face.getDeclaredConstructors().length, 1);
        Constructor<?> constructor = face.getDeclaredConstructors()[0];
        CHECK.due("constructor", Modifier.isPublic(constructor.getModifiers()) && constructor.getParameterCount() == 0, true);
        for (Field field : face.getDeclaredFields()) {
            boolean isNone = field.getName().equals("NONE") && Modifier.isPublic(field.getModifiers());
            CHECK.due("field " + field, isNone || Modifier.isPrivate(field.getModifiers()), true);
        }
    }

    private static String told(Method method) {
        List<String> types = new ArrayList<>();
        for (Class<?> type : method.getParameterTypes()) types.add(type.getName());
        return method.getReturnType().getName() + " " + method.getName() + "(" + String.join(",", types) + ")";
    }

    private static void members() {
        List<Class<?>> all = new ArrayList<>(List.of(SoapWorks.class));
        for (Class<?> inside : SoapWorks.class.getDeclaredClasses()) {
            all.add(inside);
            CHECK.due("static " + inside, Modifier.isStatic(inside.getModifiers()), true);
            CHECK.due("hidden " + inside, inside.getModifiers() & (Modifier.PUBLIC | Modifier.PROTECTED), 0);
        }
        CHECK.due("twelve classes", all.size() <= 12, true);
        Set<String> publicNames = new TreeSet<>();
        for (String signature : FACE) publicNames.add(signature.replaceAll(".* |\\(.*", ""));
        for (Class<?> type : all) {
            int fields = 0;
            for (Field field : type.getDeclaredFields()) {
                if (!Modifier.isStatic(field.getModifiers())) fields++;
                CHECK.due("static state " + field, isConstant(field), true);
            }
            CHECK.due("fields of " + type, fields <= 20, true);
            for (Method method : type.getDeclaredMethods()) {
                CHECK.due("parameters of " + method, method.getParameterCount() <= 7, true);
                boolean isFace = type == SoapWorks.class && Modifier.isPublic(method.getModifiers());
                CHECK.due("name of " + method, isFace || !publicNames.contains(method.getName()), true);
                CHECK.due("synthetic " + method, isSynthetic(method), false);
            }
        }
    }

    private static boolean isConstant(Field field) {
        if (!Modifier.isStatic(field.getModifiers())) return true;
        Class<?> type = field.getType();
        return Modifier.isFinal(field.getModifiers()) && (type == int.class || type == String.class);
    }

    private static boolean isSynthetic(Member member) {
        return member.isSynthetic();
    }

    private static void source(String text) {
        String code = text.replaceAll("(?s)/\\*.*?\\*/", "").replaceAll("//[^\n]*", "");
        String bare = code.replaceAll("\"[^\"\n]*\"", "\"\"").replaceAll("'[^'\n]'", "' '");
        for (String word : new String[] {"throw", "throws", "try", "catch", "finally", "synchronized", "assert", "static \\{",
            "Object", "System\\.out", "Random", "Thread", "\\w*Exact", "equals", "hashCode", "toString", "var", "yield"}) {
            CHECK.due("no " + word, Pattern.compile("\\b" + word + "\\b").matcher(bare).find(), false);
        }
        for (String sign : new String[] {"->", "::", "@"}) CHECK.due("no " + sign, bare.contains(sign), false);
        CHECK.due("no text joined by +", Pattern.compile("\"\"\\s*\\+|\\+\\s*\"\"").matcher(bare).find(), false);
        Matcher imports = Pattern.compile("import ([^;]+);").matcher(bare);
        while (imports.find()) CHECK.due("import " + imports.group(1), imports.group(1).equals("java.util.Arrays"), true);
        CHECK.due("no package", Pattern.compile("^package", Pattern.MULTILINE).matcher(bare).find(), false);
        Matcher library = Pattern.compile("\\b(Arrays|System|Math|Integer)\\.(\\w+)").matcher(bare);
        Set<String> allowed = Set.of("fill", "arraycopy", "min", "max", "bitCount", "numberOfTrailingZeros",
                "numberOfLeadingZeros");
        while (library.find()) CHECK.due("library " + library.group(), allowed.contains(library.group(2)), true);
        shortMethods(text.split("\n", -1));
    }

    /** A method's body is what stands deeper than its first line, up to a brace at that line's own depth. */
    private static void shortMethods(String[] lines) {
        for (int i = 0; i < lines.length; i++) {
            String line = lines[i];
            CHECK.due("length of line " + (i + 1), line.length() <= 120, true);
            if (!line.matches("( {4}| {8})[a-z].*\\) \\{")) continue;
            String close = line.replaceAll("\\S.*", "") + "}";
            int end = i;
            while (end < lines.length && !lines[end].equals(close)) end++;
            CHECK.due("lines of " + line.trim(), end - i < 60, true);
        }
    }
}
