import java.io.IOException;
import java.lang.reflect.Field;
import java.lang.reflect.Method;
import java.lang.reflect.Modifier;
import java.nio.file.Files;
import java.nio.file.Path;
import java.util.ArrayList;
import java.util.List;
import java.util.Set;
import java.util.TreeSet;
import java.util.regex.Matcher;
import java.util.regex.Pattern;

/** The rules of ../shared/LANGUAGE.md that can be seen in the text of the program or in its compiled classes. */
public final class LanguageTest {
    private static final Path SOURCE = Path.of("src/main/java/TreeServer.java");
    private static final int MOST_CLASSES = 12;
    private static final int MOST_FIELDS = 20;
    private static final int MOST_PARAMETERS = 7;
    private static final int MOST_LINES = 60;

    public static void main(String[] args) throws IOException {
        String text = withoutCommentsAndTexts(Files.readString(SOURCE));
        wordsThatAreRuledOut(text);
        methodsStayShort(text);
        List<Class<?>> classes = new ArrayList<>(List.of(TreeServer.class));
        classes.addAll(List.of(TreeServer.class.getDeclaredClasses()));
        Check.is("rule 11, classes", classes.size() <= MOST_CLASSES, true);
        for (Class<?> each : classes) {
            fieldsAreFewAndStaticOnesFinal(each);
            methodsAreNamedAndCalledByTheRules(each);
        }
        Check.end();
    }

    private static String withoutCommentsAndTexts(String text) {
        return text.replaceAll("(?s)/\\*.*?\\*/", "").replaceAll("//[^\n]*", "")
            .replaceAll("\"(\\\\.|[^\"\\\\])*\"", "\"\"").replaceAll("'(\\\\.|[^'\\\\])'", "' '");
    }

    private static void wordsThatAreRuledOut(String text) {
        absent(text, 0, "\\bpackage\\b");
        absent(text, 2, "->|::");
        absent(text, 3, "\\b(Object|Map|HashMap|Set|Optional)\\b");
        absent(text, 4, "\\bimport\\b|\\bjava\\.|\\.(format|split|hash|stream|valueOf|println)\\(|Exact\\(");
        absent(text, 5, "\\bstatic\\s*\\{");
        // The document names no exception, so none is thrown.
        absent(text, 6, "\\b(throw|finally|synchronized|assert)\\b");
        absent(text, 6, "\\b(equals|hashCode|toString)\\s*\\([^)]*\\)\\s*\\{");
        absent(text, 9, "\\bwhile\\s*\\(\\s*true\\s*\\)|for\\s*\\([^;]*;\\s*;");
        absent(text, 13, "\\b(Random|Thread|File|currentTimeMillis|nanoTime|getenv)\\b");
    }

    private static void absent(String text, int rule, String pattern) {
        Matcher matcher = Pattern.compile(pattern).matcher(text);
        Check.is("rule " + rule, matcher.find() ? matcher.group() : "kept", "kept");
    }

    /** A method begins at a line that ends its parameters with a brace, and ends at the brace of the same indent. */
    private static void methodsStayShort(String text) {
        String[] lines = text.split("\n");
        Pattern head = Pattern.compile("( +)[\\w\\[\\] ]+\\([^;]*\\) \\{");
        for (int i = 0; i < lines.length; i++) {
            Matcher matcher = head.matcher(lines[i]);
            if (!matcher.matches() || lines[i].matches(" +(if|for|while|switch|} else).*")) {
                continue;
            }
            int end = i + 1;
            while (end < lines.length && !lines[end].equals(matcher.group(1) + "}")) {
                end++;
            }
            Check.is("rule 11, lines of" + lines[i], end - i < MOST_LINES, true);
        }
    }

    private static void fieldsAreFewAndStaticOnesFinal(Class<?> each) {
        int own = 0;
        for (Field field : each.getDeclaredFields()) {
            if (!Modifier.isStatic(field.getModifiers())) {
                own++;
            } else {
                Check.is("rule 5, final " + field, Modifier.isFinal(field.getModifiers()), true);
            }
            if (each.isEnum() && !Modifier.isStatic(field.getModifiers())) {
                Set<Class<?>> allowed = Set.of(int.class, long.class, boolean.class, String.class);
                Check.is("rule 2, field of an enum " + field, allowed.contains(field.getType()), true);
            }
        }
        Check.is("rule 11, fields of " + each, own <= MOST_FIELDS, true);
    }

    private static void methodsAreNamedAndCalledByTheRules(Class<?> each) {
        Set<String> face = new TreeSet<>();
        for (Method method : TreeServer.class.getDeclaredMethods()) {
            if (Modifier.isPublic(method.getModifiers())) {
                face.add(method.getName());
            }
        }
        for (Method method : each.getDeclaredMethods()) {
            boolean ofTheFace = each == TreeServer.class && Modifier.isPublic(method.getModifiers());
            Check.is("rule 1, name of " + method, ofTheFace || !face.contains(method.getName()), true);
            Check.is("rule 11, parameters of " + method, method.getParameterCount() <= MOST_PARAMETERS, true);
        }
    }
}
