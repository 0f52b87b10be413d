import java.io.IOException;
import java.lang.reflect.Constructor;
import java.lang.reflect.Field;
import java.lang.reflect.Method;
import java.lang.reflect.Modifier;
import java.nio.file.Files;
import java.nio.file.Path;
import java.util.Arrays;
import java.util.List;
import java.util.Set;
import java.util.TreeSet;
import java.util.regex.Matcher;
import java.util.regex.Pattern;

/** The face of the document, and those rules of LANGUAGE.md that can be read off the program. */
public final class RulesTest {
    private static final Check CHECK = new Check();
    private static final Set<String> FACE = new TreeSet<>(Arrays.asList(
            "int feed(long,int)", "void connect()", "boolean open()", "int kept()", "int bound()",
            "int code()", "int found()", "int length()", "long output(int)", "int entries()",
            "int parent(int)", "int values(int,int)", "int value(int,int,int,int)"));

    public static void main(String[] args) throws IOException {
        Path root = Path.of(args.length > 0 ? args[0] : ".");
        String source = Files.readString(root.resolve("src/main/java/DirectorySession.java"));
        face();
        nestedClasses();
        words(withoutComments(source));
        methodLengths(source);
        CHECK.finish();
    }

    private static void face() {
        Class<?> type = DirectorySession.class;
        CHECK.holds("public and final",
                Modifier.isPublic(type.getModifiers()) && Modifier.isFinal(type.getModifiers()));
        Set<String> seen = new TreeSet<>();
        for (Method method : type.getDeclaredMethods()) {
            if (Modifier.isPublic(method.getModifiers())) {
                seen.add(method.getReturnType() + " " + method.getName()
                        + Arrays.toString(method.getParameterTypes())
                        .replace('[', '(').replace(']', ')').replace(", ", ","));
            } else {
                CHECK.holds("private " + method, Modifier.isPrivate(method.getModifiers()));
                notAFaceName(method);
            }
        }
        CHECK.same("the face", seen, FACE);
        for (Field field : type.getDeclaredFields()) {
            CHECK.holds("private " + field, Modifier.isPrivate(field.getModifiers()));
        }
        for (Constructor<?> constructor : type.getDeclaredConstructors()) {
            CHECK.same("constructor", constructor.toString(), "public DirectorySession()");
        }
    }

    private static void notAFaceName(Method method) {
        CHECK.holds("a name of the face: " + method,
                FACE.stream().noneMatch(f -> f.contains(" " + method.getName() + "(")));
    }

    private static void nestedClasses() {
        Class<?>[] nested = DirectorySession.class.getDeclaredClasses();
        CHECK.holds("some twelve classes", nested.length <= 12);
        for (Class<?> type : nested) {
            CHECK.holds("static " + type, Modifier.isStatic(type.getModifiers()));
            CHECK.holds("not public " + type, !Modifier.isPublic(type.getModifiers()));
            int fields = 0;
            for (Field field : type.getDeclaredFields()) {
                boolean constant = Modifier.isStatic(field.getModifiers());
                CHECK.holds("final " + field, !constant || Modifier.isFinal(field.getModifiers()));
                fields += constant ? 0 : 1;
            }
            CHECK.holds("some twenty fields " + type, fields <= 20);
            for (Method method : type.getDeclaredMethods()) {
                CHECK.holds("seven parameters " + method, method.getParameterCount() <= 7);
                notAFaceName(method);
            }
        }
    }

    private static String withoutComments(String source) {
        return source.replaceAll("(?s)/\\*.*?\\*/", " ").replaceAll("//[^\n]*", " ");
    }

    private static void words(String code) {
        List<String> banned = List.of("import", "package", "try", "throw", "catch", "finally",
                "synchronized", "assert", "System", "Thread", "Random", "record", "var",
                "instanceof", "String", "Object", "Integer", "Long", "protected", "volatile", "yield");
        for (String word : banned) {
            CHECK.holds("the word " + word, !Pattern.compile("\\b" + word + "\\b").matcher(code).find());
        }
        for (String mark : List.of("->", "::", "\"", "@", "/ 0", "% ")) {
            CHECK.holds("the mark " + mark, !code.contains(mark));
        }
        // Objects are made in constructors and fields alone, never by a call.
        Matcher made = Pattern.compile("(?m)^.*\\bnew\\b.*$").matcher(code);
        while (made.find()) {
            String line = made.group().trim();
            boolean field = line.startsWith("private final") || line.startsWith("final");
            boolean inConstructor = line.matches("(given|plains|attributes\\[type]|order\\[place]) = new .*");
            CHECK.holds("made by a call: " + line, field || inConstructor);
        }
    }

    private static void methodLengths(String source) {
        String[] lines = source.split("\n");
        int start = -1;
        String indent = "";
        for (int k = 0; k < lines.length; k++) {
            Matcher head = Pattern.compile("^( {4}| {8})(?!private static final class)[a-zA-Z].*\\) \\{$")
                    .matcher(lines[k]);
            if (head.find()) {
                start = k;
                indent = head.group(1);
            } else if (start >= 0 && lines[k].equals(indent + "}")) {
                CHECK.holds("a short method at line " + (start + 1), k - start < 60);
                start = -1;
            }
            CHECK.holds("a short line " + (k + 1), lines[k].length() <= 110);
        }
    }
}
