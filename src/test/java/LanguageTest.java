import java.io.IOException;
import java.lang.reflect.Field;
import java.lang.reflect.Method;
import java.lang.reflect.Modifier;
import java.nio.file.Files;
import java.nio.file.Path;
import java.util.ArrayList;
import java.util.List;
import java.util.Set;
import java.util.TreeSet;
import java.util.regex.Matcher;
import java.util.regex.Pattern;
import java.util.stream.Stream;

/** What can be seen of the rules of LANGUAGE.md in the text of the class and in its members. */
final class LanguageTest {
    private static final Path MAIN = Path.of("src/main/java");
    private static final Set<String> IMPORTS = Set.of("java.util.Arrays", "java.util.ArrayList", "java.util.List",
            "java.util.Iterator", "java.util.NoSuchElementException");
    private static final Set<String> THROWN = Set.of("IllegalStateException", "IllegalArgumentException",
            "IndexOutOfBoundsException");
    private static final String[] RULED_OUT = {"package", "finally", "synchronized", "assert", "double", "float",
        "->", "::", "Exact", "getMessage", "hashCode", "toString", "protected", "System.out", "System.nano",
        "System.current", "Thread", "Random"};

    private LanguageTest() {
    }

    public static void main(String[] args) throws IOException {
        try (Stream<Path> files = Files.list(MAIN)) {
            Check.dueSame("the files of the program", files.map(Path::getFileName).toList().toString(), "[EarthHauls.java]");
        }
        String code = withoutComments(Files.readString(MAIN.resolve("EarthHauls.java")));
        ruledOut(code);
        imports(code);
        exceptions(code);
        lengthOfMethods(code);
        members();
        Check.end();
    }

    private static String withoutComments(String text) {
        return text.replaceAll("(?s)/\\*.*?\\*/", "").replaceAll("//[^\n]*", "");
    }

    private static void ruledOut(String code) {
        for (String word : RULED_OUT) {
            String pattern = word.matches("\\w+") && !word.equals("Exact") ? "\\b" + word + "\\b" : Pattern.quote(word);
            Check.due("the class uses " + word, Pattern.compile(pattern).matcher(code).find() ? 1 : 0, 0);
        }
        Check.due("a static block", Pattern.compile("static\\s*\\{").matcher(code).find() ? 1 : 0, 0);
    }

    private static void imports(String code) {
        Matcher found = Pattern.compile("import ([\\w.*]+);").matcher(code);
        while (found.find()) {
            Check.due("rule 4: import of " + found.group(1), IMPORTS.contains(found.group(1)) ? 1 : 0, 1);
        }
    }

    private static void exceptions(String code) {
        Matcher found = Pattern.compile("throw\\s+([^;]*);").matcher(code);
        while (found.find()) {
            Matcher made = Pattern.compile("new (\\w+)\\((\"[^\"]*\")?\\)").matcher(found.group(1));
            boolean fits = made.matches() && THROWN.contains(made.group(1));
            Check.due("rule 6: throw " + found.group(1), fits ? 1 : 0, 1);
        }
    }

    /** A method begins with a line that ends in a brace at its class's own depth, and ends at that depth again. */
    private static void lengthOfMethods(String code) {
        List<Integer> openedAt = new ArrayList<>();
        String[] lines = code.split("\n");
        for (int i = 0; i < lines.length; i++) {
            for (char c : lines[i].toCharArray()) {
                if (c == '{') {
                    openedAt.add(i);
                } else if (c == '}') {
                    int first = openedAt.remove(openedAt.size() - 1);
                    boolean isClass = lines[first].contains("class ");
                    Check.due("rule 11: lines " + first + " to " + i, isClass || i - first <= 60 ? 1 : 0, 1);
                }
            }
        }
        Check.due("braces left open", openedAt.size(), 0);
    }

    private static void members() {
        Set<Class<?>> classes = new TreeSet<>((one, other) -> one.getName().compareTo(other.getName()));
        classes.add(EarthHauls.class);
        classes.addAll(List.of(EarthHauls.class.getDeclaredClasses()));
        Check.due("rule 11: at most 12 classes", classes.size() <= 12 ? 1 : 0, 1);
        for (Class<?> c : classes) {
            int fields = 0;
            for (Field f : c.getDeclaredFields()) {
                fields += Modifier.isStatic(f.getModifiers()) ? 0 : 1;
            }
            Check.due("rule 11: at most 20 fields in " + c, fields <= 20 ? 1 : 0, 1);
            for (Method m : c.getDeclaredMethods()) {
                Check.due("rule 11: at most 7 parameters of " + m, m.getParameterCount() <= 7 ? 1 : 0, 1);
            }
        }
    }
}
