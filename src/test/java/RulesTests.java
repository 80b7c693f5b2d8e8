import java.lang.reflect.Field;
import java.lang.reflect.Method;
import java.lang.reflect.Modifier;
import java.nio.charset.StandardCharsets;
import java.nio.file.Files;
import java.nio.file.Path;
import java.util.ArrayList;
import java.util.List;
import java.util.Set;
import java.util.TreeSet;
import java.util.regex.Matcher;
import java.util.regex.Pattern;

/**
 * Rules of LANGUAGE.md that can be seen in the class's text (the first argument is its file) or in
 * its members.
 */
public final class RulesTests {
    private static final String[] FORBIDDEN = {"->", "::", "\\bpackage\\b", "\\bthrows\\b",
        "\\bfinally\\b", "\\bsynchronized\\b", "\\bassert\\b", "Exact\\b", "\\bprotected\\b",
        "\\bObject\\b", "\\bThrowable\\b", "\\bException\\b", "\\bError\\b",
        "\\b(ArrayIndexOutOfBounds|NullPointer|ClassCast|NegativeArraySize|ArrayStore)Exception\\b",
        "\\bSystem\\.(?!arraycopy)", "\\bimport (?!java\\.util\\.(ArrayList|List|Arrays|Iterator|"
        + "NoSuchElementException);)"};
    private static final Pattern HEAD = Pattern.compile(
            "^(?: {4}| {8})(?:(?:public|private|static|final) )*(?:[\\w\\[\\]]+ )?(\\w+)\\((.*)\\) \\{$");

    public static void main(String[] args) throws Exception {
        Path file = Path.of(args.length > 0 ? args[0] : "src/main/java/LongestRuns.java");
        String[] lines = Files.readString(file, StandardCharsets.US_ASCII).split("\n");
        int classes = 0;
        for (int i = 0; i < lines.length; i++) {
            String code = codeOf(lines[i]);
            for (String word : FORBIDDEN) {
                boolean isThere = Pattern.compile(word).matcher(code).find();
                Check.holds("line " + (i + 1) + " has no " + word, !isThere);
            }
            Matcher head = HEAD.matcher(lines[i]);
            if (head.matches() && !code.trim().startsWith("if")) {
                int parameters = head.group(2).isEmpty() ? 0 : head.group(2).split(",").length;
                Check.holds("parameters at " + (i + 1), parameters <= 7);
                Check.holds("length of the method at " + (i + 1), lengthFrom(lines, i) <= 65);
            }
            boolean isStatic = code.matches("^ {4,8}(private|public) static (?!.*\\().*");
            Check.holds("static field at " + (i + 1), !isStatic || code.contains(" final "));
            classes += code.matches(".*\\bclass \\w+ \\{$") ? 1 : 0;
        }
        Check.holds("classes: " + classes, classes >= 1 && classes <= 14);
        members();
        Check.end();
    }

    private static void members() {
        Set<String> face = new TreeSet<>();
        for (Method method : LongestRuns.class.getDeclaredMethods()) {
            if (Modifier.isPublic(method.getModifiers())) {
                face.add(method.getName());
            }
        }
        List<Class<?>> all = new ArrayList<>(List.of(LongestRuns.class));
        for (int i = 0; i < all.size(); i++) {
            all.addAll(List.of(all.get(i).getDeclaredClasses()));
            membersOf(all.get(i), face);
        }
    }

    /** Rules 1, 3 and 5. */
    private static void membersOf(Class<?> type, Set<String> face) {
        if (type != LongestRuns.class) {
            int modifiers = type.getModifiers();
            Check.holds(type + " is static", Modifier.isStatic(modifiers));
            Check.holds(type + " is not to be seen from outside",
                    !Modifier.isPublic(modifiers) && !Modifier.isProtected(modifiers));
        }
        for (Method method : type.getDeclaredMethods()) {
            boolean isOfTheFace = type == LongestRuns.class && Modifier.isPublic(method.getModifiers());
            Check.holds(method + " bears a name of the face",
                    isOfTheFace || !face.contains(method.getName()));
        }
        int fields = 0;
        for (Field field : type.getDeclaredFields()) {
            if (Modifier.isStatic(field.getModifiers())) {
                Check.holds(field + " is a constant", Modifier.isFinal(field.getModifiers())
                        && field.getType() == int.class);
            } else {
                fields++;
                Check.holds(field + " has a type that is told", isTold(field.getType()));
            }
        }
        Check.holds(type + " has " + fields + " fields", fields <= 20);
    }

    /** Of those that the rules allow the class uses these. */
    private static boolean isTold(Class<?> type) {
        boolean isOwn = type.getName().startsWith("LongestRuns")
                || type.isArray() && type.getComponentType().getName().startsWith("LongestRuns");
        return isOwn || type == int.class || type == boolean.class || type == int[].class
                || type == int[][].class;
    }

    /** Without comments: signs in quotes have none of the forbidden words. */
    private static String codeOf(String line) {
        String trimmed = line.trim();
        if (trimmed.startsWith("*") || trimmed.startsWith("/*") || trimmed.startsWith("//")) {
            return "";
        }
        return line;
    }

    private static int lengthFrom(String[] lines, int head) {
        String end = lines[head].replaceAll("\\S.*", "") + "}";
        int i = head;
        while (i < lines.length && !lines[i].equals(end)) {
            i++;
        }
        return i - head + 1;
    }
}
