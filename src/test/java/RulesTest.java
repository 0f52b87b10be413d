import java.io.IOException;
import java.lang.reflect.Constructor;
import java.lang.reflect.Field;
import java.lang.reflect.Method;
import java.lang.reflect.Modifier;
import java.nio.file.Files;
import java.nio.file.Path;
import java.util.Arrays;
import java.util.List;
import java.util.Set;
import java.util.TreeSet;
import java.util.regex.Matcher;
import java.util.regex.Pattern;

/** The face of the document, and those rules of LANGUAGE.md that can be read off the program. */
public final class RulesTest {
    private static final Check CHECK = new Check();
    private static final Set<String> FACE = new TreeSet<>(Arrays.asList(
            "int feed(long,int)", "void connect()", "boolean open()", "int kept()", "int bound()",
            "int code()", "int found()", "int length()", "long output(int)", "int entries()",
            "int parent(int)", "int values(int,int)", "int value(int,int,int,int)"));

    public static void main(String[] args) throws IOException {
        Path root = Path.of(args.length > 0 ? args[0] : ".");
        String source = Files.readString(root.resolve("src/main/java/DirectorySession.java"));
        face();
        nestedClasses();
        words(withoutComments(source));
        methodLengths(source);
        CHECK.finish();
    }

    private static void face() {
        Class<?> type = DirectorySession.class;
        CHECK.holds("public and final",
                Modifier.isPublic(type.getModifiers()) && Modifier.isFinal(type.getModifiers()));
        Set<String> seen = new TreeSet<>();
        for (Method method : type.getDeclaredMethods()) {
            if (Modifier.isPublic(method.getModifiers())) {
                seen.add(method.getReturnType() + " " + method.getName()
                        + Arrays.toString(method.getParameterTypes())
                        .replace('[', '(').replace(']', ')').replace(", ", ","));
            } else {
                CHECK.holds("private " + method, Modifier.isPrivate(method.getModifiers()));
                notAFaceName(method);
            }
        }
        CHECK.same("the face", seen, FACE);
        for (Field field : type.getDeclaredFields()) {
            CHECK.holds("private " + field, Modifier.isPrivate(field.getModifiers()));
        }
        for (Constructor<?> constructor : type.getDeclaredConstructors()) {
            CHECK.same("constructor", constructor.toString(), "public DirectorySession()");
        }
    }

    private static void notAFaceName(Method method) {
        CHECK.holds("a name of the face: " + method,
                FACE.stream().noneMatch(f -> f.contains(" " + method.getName() + "(")));
    }

    private static void nestedClasses() {
        Class<?>[] nested = DirectorySession.class.getDeclaredClasses();
        CHECK.holds("some twelve classes", nested.length <= 12);
        for (Class<?> type : nested) {
            CHECK.holds("static " + type, Modifier.isStatic(type.getModifiers()));
            CHECK.holds("not public " + type, !Modifier.isPublic(type.getModifiers()));
            int fields = 0;
            for (Field field : type.getDeclaredFields()) {
                boolean constant = Modifier.isStatic(field.getModifiers());
                CHECK.holds("final " + field, !constant || Modifier.isFinal(field.getModifiers()));
                fields += constant ? 0 : 1;
            }
            CHECK.holds("some twenty fields " + type, fields <= 20);
            for (Method method : type.getDeclaredMethods()) {
                CHECK.holds("seven parameters " + method, method.getParameterCount() <= 7);
                if (Modifier.isPrivate(method.getModifiers())) {
                    notAFaceName(method);
                }
            }
        }
    }

    /** Nor with the insides of texts, in which any word may stand. */
    private static String withoutComments(String source) {
        return source.replaceAll("(?s)/\\*.*?\\*/", " ").replaceAll("//[^\n]*", " ")
                .replaceAll("\"(\\\\.|[^\"\\\\\n])*\"", "\"\"");
    }

    private static void words(String code) {
        List<String> banned = List.of("package", "finally", "synchronized", "assert", "protected",
                "Thread", "Random", "Object", "getMessage", "hashCode", "volatile");
        for (String word : banned) {
            CHECK.holds("the word " + word, !Pattern.compile("\\b" + word + "\\b").matcher(code).find());
        }
        CHECK.holds("a method reference", !code.contains("::"));
        CHECK.holds("a call of the system", !Pattern.compile("\\bSystem\\.(?!arraycopy\\()").matcher(code).find());
        CHECK.holds("a function that throws", !Pattern.compile("Exact\\(").matcher(code).find());
        for (String line : code.split("\n")) {
            String words = line.trim();
            boolean inSwitch = words.startsWith("case ") || words.startsWith("default");
            CHECK.holds("a lambda: " + words, inSwitch || !words.contains("->"));
            CHECK.holds("another library: " + words, !words.startsWith("import ")
                    || words.matches("import java\\.util\\.(ArrayList|List|Arrays|Iterator|NoSuchElementException);"));
        }
    }

    private static void methodLengths(String source) {
        String[] lines = source.split("\n");
        int start = -1;
        String indent = "";
        for (int k = 0; k < lines.length; k++) {
            Matcher head = Pattern.compile("^( {4}| {8})(?!private static final class)[a-zA-Z].*\\) \\{$")
                    .matcher(lines[k]);
            if (head.find()) {
                start = k;
                indent = head.group(1);
            } else if (start >= 0 && lines[k].equals(indent + "}")) {
                CHECK.holds("a short method at line " + (start + 1), k - start <= 65);
                start = -1;
            }
        }
    }
}
