import java.io.IOException;
import java.lang.reflect.Constructor;
import java.lang.reflect.Field;
import java.lang.reflect.Method;
import java.lang.reflect.Modifier;
import java.nio.file.Files;
import java.nio.file.Path;
import java.util.ArrayList;
import java.util.List;
import java.util.Set;
import java.util.TreeSet;
import java.util.regex.Matcher;
import java.util.regex.Pattern;

/** Rules of ../shared/LANGUAGE.md that can be seen in the source, or by reflection. */
public final class LanguageTest {
    private static final String SOURCE = "src/main/java/DepotNetwork.java";
    private static final Set<String> THROWN = Set.of("IllegalStateException",
            "IllegalArgumentException", "IndexOutOfBoundsException");
    private static final Set<String> LIBRARY =
            Set.of("Arrays.fill", "Math.min", "System.arraycopy", "word.charAt", "word.length");
    private static final Pattern HEAD =
            Pattern.compile("( {4}| {8}| {12})\\S.*(\\)|Exception) \\{");

    private LanguageTest() {
    }

    public static void main(String[] args) throws IOException {
        String source = Files.readString(Path.of(SOURCE));
        String code = withoutTextsAndComments(source);
        nothingForbidden(source, code);
        Check.is(Set.of("import java.util.Arrays;"), "rule 4: imports",
                found(code, "(?m)^import .*;"));
        Check.is(LIBRARY, "rule 4: calls of the library", found(code,
                "\\b(?:[A-Z]\\w*|word)\\.[a-z]\\w*(?=\\()"));
        Check.is(Set.of(), "rule 4: constants of the library",
                found(code, "\\b(?:Integer|Long|Math|System|Arrays)\\.[A-Z]\\w*"));
        Check.is(THROWN, "rule 6: what is thrown", found(code, "(?<=throw new )\\w+"));
        for (Class<?> type : allClasses()) {
            fewFieldsAndNoStaticState(type);
            fewParameters(type);
        }
        Check.is(true, "rule 11: at most some twelve classes", allClasses().size() <= 12);
        Check.is(List.of(), "rule 11: methods of more than sixty lines", longMethods(code));
        Check.end("LanguageTest");
    }

    private static void nothingForbidden(String source, String code) {
        for (String word : new String[] {"package", "try", "catch", "finally", "synchronized",
                "assert", "instanceof", "protected", "equals", "hashCode", "toString", "getClass",
                "Object", "Thread", "Random", "nanoTime", "currentTimeMillis", "double", "float"}) {
            Check.is(Set.of(), "the word " + word, found(code, "\\b" + word + "\\b"));
        }
        Check.is(Set.of(), "rule 2: lambdas and method references", found(code, "->|::"));
        Check.is(Set.of(), "rule 5: static initialisers", found(code, "static\\s*\\{"));
        Check.is(Set.of(), "rule 9: loops without an end",
                found(code, "while \\(true\\)|for \\(;;\\)|\\bdo \\{"));
        Check.is(Set.of(), "rule 4: signs beyond 127", found(source, "[^\\n -~]"));
    }

    private static String withoutTextsAndComments(String source) {
        return source.replaceAll("(?s)/\\*.*?\\*/", "").replaceAll("//.*", "")
                .replaceAll("\"[^\"\\n]*\"", "\"\"");
    }

    private static Set<String> found(String code, String pattern) {
        Set<String> all = new TreeSet<>();
        Matcher matcher = Pattern.compile(pattern).matcher(code);
        while (matcher.find()) {
            all.add(matcher.group());
        }
        return all;
    }

    private static List<Class<?>> allClasses() {
        List<Class<?>> all = new ArrayList<>(List.of(DepotNetwork.class.getDeclaredClasses()));
        all.add(DepotNetwork.class);
        return all;
    }

    private static void fewFieldsAndNoStaticState(Class<?> type) {
        int fields = 0;
        for (Field field : type.getDeclaredFields()) {
            if (Modifier.isStatic(field.getModifiers())) {
                Check.is(true, "rule 5: " + field + " is final",
                        Modifier.isFinal(field.getModifiers()));
            } else {
                fields++;
            }
        }
        Check.is(true, "rule 11: at most some twenty fields in " + type, fields <= 20);
    }

    private static void fewParameters(Class<?> type) {
        for (Method method : type.getDeclaredMethods()) {
            Check.is(true, "rule 11: at most seven parameters of " + method,
                    method.getParameterCount() <= 7);
        }
        for (Constructor<?> constructor : type.getDeclaredConstructors()) {
            Check.is(true, "rule 11: at most seven parameters of " + constructor,
                    constructor.getParameterCount() <= 7);
        }
    }

    private static List<String> longMethods(String code) {
        List<String> tooLong = new ArrayList<>();
        String[] lines = code.split("\n");
        for (int start = 0; start < lines.length; start++) {
            Matcher head = HEAD.matcher(lines[start]);
            if (!head.matches()) {
                continue;
            }
            int end = start;
            while (end < lines.length - 1 && depth(lines, start, end) > 0) {
                end++;
            }
            if (end - start > 60) {
                tooLong.add(lines[start].trim());
            }
        }
        return tooLong;
    }

    private static int depth(String[] lines, int start, int end) {
        int depth = 0;
        for (int i = start; i <= end; i++) {
            depth += count(lines[i], '{') - count(lines[i], '}');
        }
        return depth;
    }

    private static int count(String line, char sign) {
        return (int) line.chars().filter(c -> c == sign).count();
    }
}
