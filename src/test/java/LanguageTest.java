import java.io.IOException;
import java.lang.reflect.Field;
import java.lang.reflect.Method;
import java.lang.reflect.Modifier;
import java.nio.charset.StandardCharsets;
import java.nio.file.Files;
import java.nio.file.Path;
import java.util.ArrayList;
import java.util.Arrays;
import java.util.List;
import java.util.Set;
import java.util.TreeSet;
import java.util.regex.Matcher;
import java.util.regex.Pattern;

/** The public face, and those rules of ../shared/LANGUAGE.md that a look at the file can tell. */
public final class LanguageTest {
    private static final Path SOURCE = Path.of("src/main/java/EdgeVerses.java");
    private static final Check CHECK = new Check();
    private static final Set<String> METHODS = Set.of("type(char)", "clearText()", "addWord()",
            "removeWord(int)", "setLimit(int,int)", "setMetre(int,int)", "setEdges()",
            "makeLine(int)", "make()", "clearLine(int)", "undo()", "keep(int)", "restore(int)",
            "word(int,int)", "letterAt(int,int)", "line(int,int)", "wordAt(int,int)",
            "nearMiss(int,int)", "find()", "poemAt(int)", "count(int)");
    private static final Set<String> CONSTANTS =
            Set.of("UNKNOWN", "BAD_VALUE", "FULL", "NOT_POSSIBLE", "NONE");

    public static void main(String[] args) throws IOException {
        face();
        for (Class<?> inside : EdgeVerses.class.getDeclaredClasses()) {
            classInside(inside);
        }
        String source = Files.readString(SOURCE, StandardCharsets.US_ASCII);
        String code = withoutCommentsAndLiterals(source);
        forbiddenWords(code);
        shortMethods(code);
        objectsAreMadeOnceForAll(code);
        CHECK.finish();
    }

    private static void face() {
        Class<?> face = EdgeVerses.class;
        CHECK.due("modifiers of the class", "public final", Modifier.toString(face.getModifiers()));
        CHECK.due("constructors", 1, face.getDeclaredConstructors().length);
        CHECK.due("modifiers of the constructor", "public",
                Modifier.toString(face.getDeclaredConstructors()[0].getModifiers()));
        Set<String> methods = new TreeSet<>();
        for (Method method : face.getDeclaredMethods()) {
            if (!Modifier.isPrivate(method.getModifiers())) {
                String types = Arrays.toString(method.getParameterTypes()).replaceAll("[\\[\\] ]", "");
                methods.add(method.getName() + "(" + types + ")");
                CHECK.due(method + ", its modifiers and type", "public int",
                        Modifier.toString(method.getModifiers()) + " " + method.getReturnType());
            }
        }
        CHECK.due("methods of the face", new TreeSet<>(METHODS), methods);
        Set<String> constants = new TreeSet<>();
        for (Field field : face.getDeclaredFields()) {
            if (!Modifier.isPrivate(field.getModifiers())) {
                constants.add(field.getName());
                CHECK.due(field + ", its modifiers and type", "public static final int",
                        Modifier.toString(field.getModifiers()) + " " + field.getType());
            }
        }
        CHECK.due("constants of the face", new TreeSet<>(CONSTANTS), constants);
        privateNames(face);
    }

    private static void privateNames(Class<?> owner) {
        Set<String> publicNames = new TreeSet<>();
        METHODS.forEach(method -> publicNames.add(method.substring(0, method.indexOf('('))));
        for (Method method : owner.getDeclaredMethods()) {
            boolean ofTheFace = Modifier.isPublic(method.getModifiers());
            CHECK.due(method + " bears a name of the face", false,
                    !ofTheFace && publicNames.contains(method.getName()));
        }
    }

    private static void classInside(Class<?> inside) {
        CHECK.due(inside + " is static", true, Modifier.isStatic(inside.getModifiers()));
        CHECK.due(inside + " is public", false, Modifier.isPublic(inside.getModifiers()));
        int fields = 0;
        for (Field field : inside.getDeclaredFields()) {
            boolean isStatic = Modifier.isStatic(field.getModifiers());
            fields += isStatic ? 0 : 1;
            CHECK.due(field + " is static and changes", false,
                    isStatic && !Modifier.isFinal(field.getModifiers()));
        }
        CHECK.due(inside + " has more than twenty fields", false, fields > 20);
        privateNames(inside);
    }

    private static String withoutCommentsAndLiterals(String source) {
        return Pattern.compile("/\\*.*?\\*/", Pattern.DOTALL).matcher(source).replaceAll("")
                .replaceAll("//[^\n]*", "")
                .replaceAll("\"[^\"\n]*\"", "\"\"")
                .replaceAll("'(\\\\.|[^'\\\\])'", "SIGN");
    }

    private static void forbiddenWords(String code) {
        String[] words = {"throw", "throws", "try", "catch", "finally", "synchronized", "assert",
            "import", "package", "native", "volatile", "transient", "float", "double", "hashCode",
            "System.out", "System.err", "System.in", "System.exit", "Thread", "Random", "Exact",
            "Exception", "Error"};
        for (String word : words) {
            Matcher matcher = Pattern.compile("\\b" + Pattern.quote(word) + "\\b").matcher(code);
            CHECK.due("the file holds " + word, false, matcher.find());
        }
        for (String sign : new String[] {"->", "::", "@", "\"", "while (true)", "for (;;)"}) {
            CHECK.due("the file holds " + sign, false, code.contains(sign));
        }
        List<String> library = new ArrayList<>();
        Matcher calls = Pattern.compile("\\b(System|Math|Integer|Long|Arrays)\\.\\w+").matcher(code);
        while (calls.find()) {
            library.add(calls.group());
        }
        library.removeIf(Set.of("System.arraycopy", "Math.max", "Math.min")::contains);
        CHECK.due("what it uses of the library besides", List.of(), library);
        int classes = code.split("\\bclass\\b").length - 1;
        CHECK.due("more than twelve classes", false, classes > 12);
    }

    private static void shortMethods(String code) {
        int start = -1;
        String[] lines = code.split("\n");
        for (int line = 0; line < lines.length; line++) {
            boolean opens = lines[line].matches("( {4}| {8})\\S.*\\) \\{");
            if (opens) {
                start = line;
            } else if (start >= 0 && lines[line].matches("( {4}| {8})\\}")) {
                CHECK.due("more than sixty lines: " + lines[start].trim(), false, line - start > 60);
                start = -1;
            }
        }
    }

    /** A run has little room: what a call needs is made in constructors and used again. */
    private static void objectsAreMadeOnceForAll(String code) {
        for (String line : code.split("\n")) {
            boolean makes = line.matches(".*\\bnew\\b.*");
            boolean inAField = line.matches(" {4,8}private final \\S+ \\w+ = new .*;");
            boolean inALoopOfAConstructor = line.trim().matches("states\\[\\w+\\] = new State\\(\\);");
            CHECK.due("a call makes an object: " + line.trim(), false,
                    makes && !inAField && !inALoopOfAConstructor);
        }
    }
}
