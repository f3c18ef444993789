import java.io.IOException;
import java.lang.reflect.Field;
import java.lang.reflect.Method;
import java.lang.reflect.Modifier;
import java.nio.file.Files;
import java.nio.file.Path;
import java.util.ArrayList;
import java.util.List;
import java.util.Set;
import java.util.regex.Matcher;
import java.util.regex.Pattern;

/** Those rules of LANGUAGE.md that can be looked for in the class's text, or in what became of it. */
public final class LanguageTest {
    /* Of "and their like" nothing is taken: a function that stands there by name is allowed for sure. */
    private static final Set<String> ALLOWED = Set.of(
            "Math.min", "Math.max", "Math.abs", "Math.floorDiv", "Math.floorMod",
            "Integer.compare", "Integer.max", "Integer.min", "Integer.bitCount",
            "Long.compare", "Long.max", "Long.min", "Long.bitCount",
            "System.arraycopy", "Arrays.copyOf", "Arrays.copyOfRange", "Arrays.fill");
    private static final Set<String> IMPORTS = Set.of(
            "java.util.Arrays", "java.util.NoSuchElementException", "java.util.ArrayList", "java.util.List");
    private static final Set<String> EXCEPTIONS = Set.of(
            "IllegalStateException", "IllegalArgumentException", "IndexOutOfBoundsException", "ArithmeticException",
            "UnsupportedOperationException", "NoSuchElementException", "RuntimeException");
    private static final Set<String> FACE = Set.of(
            "feed", "load", "give", "call", "result", "global", "at", "look");
    private static final Set<Class<?>> KEPT = Set.of(int.class, long.class, boolean.class, char.class, String.class,
            int[].class, long[].class, char[].class, byte[].class);

    public static void main(String[] args) throws IOException {
        String whole = Files.readString(Path.of("src/main/java/ModuleHouse.java"));
        lengthOfMethods(whole);
        String text = withoutComments(whole);
        library(text);
        exceptions(text);
        words(text);
        List<Class<?>> classes = new ArrayList<>(List.of(ModuleHouse.class.getDeclaredClasses()));
        names(classes);
        classes.add(ModuleHouse.class);
        Support.due("at most some twelve classes", classes.size() <= 12 ? 1 : 0, 1);
        for (Class<?> one : classes) {
            fields(one);
            parameters(one);
        }
        Support.end();
    }

    private static String withoutComments(String text) {
        return text.replaceAll("(?s)/\\*.*?\\*/", "").replaceAll("//[^\n]*", "");
    }

    private static void holds(String what, boolean good) {
        Support.due(what, good ? 1 : 0, 1);
    }

    /** Rule 4: only what stands there. */
    private static void library(String text) {
        Matcher own = Pattern.compile("\\bclass (\\w+)").matcher(text);
        StringBuilder ownNames = new StringBuilder(" ");
        while (own.find()) {
            ownNames.append(own.group(1)).append(' ');
        }
        Matcher imported = Pattern.compile("\\bimport ([\\w.*]+);").matcher(text);
        while (imported.find()) {
            holds("import of " + imported.group(1), IMPORTS.contains(imported.group(1)));
        }
        Matcher used = Pattern.compile("\\b([A-Z]\\w*[a-z]\\w*)\\.(\\w+)").matcher(text);
        while (used.find()) {
            boolean isOwn = ownNames.indexOf(" " + used.group(1) + " ") >= 0;
            holds("use of " + used.group(), isOwn || ALLOWED.contains(used.group()));
        }
    }

    /** Rule 6: throw new E() or throw new E("a written text"); a catch leaves the exception alone. */
    private static void exceptions(String text) {
        Matcher thrown = Pattern.compile("\\bthrow\\b([^;]*);").matcher(text);
        while (thrown.find()) {
            Matcher made = Pattern.compile(" new (\\w+)\\((\"[^\"]*\")?\\)").matcher(thrown.group(1));
            holds("throw" + thrown.group(1), made.matches() && EXCEPTIONS.contains(made.group(1)));
        }
        Matcher caught = Pattern.compile("\\bcatch \\((\\w+) (\\w+)\\) \\{([^}]*)\\}").matcher(text);
        while (caught.find()) {
            holds("catch of " + caught.group(1), EXCEPTIONS.contains(caught.group(1)));
            holds("the exception is left alone", !caught.group(3).matches("(?s).*\\b" + caught.group(2) + "\\b.*"));
        }
    }

    /** Rules 2, 6 and 13: no such word. */
    private static void words(String text) {
        for (String word : List.of("finally", "synchronized", "assert", "native", "volatile", "protected", "equals",
                "hashCode", "toString", "getClass", "package")) {
            holds("no " + word, !Pattern.compile("\\b" + word + "\\b").matcher(text).find());
        }
        holds("no method reference", !text.contains("::"));
        holds("no static initialiser block", !Pattern.compile("\\bstatic\\s*\\{").matcher(text).find());
    }

    /** Rule 11: methods stay short (some sixty lines). */
    private static void lengthOfMethods(String text) {
        String[] lines = text.split("\n");
        Pattern head = Pattern.compile("^( {4}| {8})\\w[\\w\\[\\] ]+\\([^;]*\\{$");
        for (int k = 0; k < lines.length; k++) {
            Matcher begins = head.matcher(lines[k]);
            if (begins.matches()) {
                int last = k;
                while (last < lines.length && !lines[last].equals(begins.group(1) + "}")) {
                    last++;
                }
                holds(lines[k].trim() + " has " + (last - k + 1) + " lines", last - k < 60);
            }
        }
    }

    /** Rule 1: classes inside are private or package-visible and static, and no method has a public one's name. */
    private static void names(List<Class<?>> inside) {
        for (Class<?> one : inside) {
            holds(one + " is static", Modifier.isStatic(one.getModifiers()));
            int shown = one.getModifiers() & (Modifier.PUBLIC | Modifier.PROTECTED);
            holds(one + " is private or package-visible", shown == 0);
            for (Method method : one.getDeclaredMethods()) {
                holds(method + " has its own name", !FACE.contains(method.getName()));
            }
        }
        for (Method method : ModuleHouse.class.getDeclaredMethods()) {
            holds(method + " has its own name",
                    Modifier.isPublic(method.getModifiers()) == FACE.contains(method.getName()));
        }
    }

    /** Rule 5: static fields are final, and of these types; rule 11: some twenty others. */
    private static void fields(Class<?> one) {
        int others = 0;
        for (Field field : one.getDeclaredFields()) {
            if (!Modifier.isStatic(field.getModifiers())) {
                others++;
                continue;
            }
            holds(field + " is final", Modifier.isFinal(field.getModifiers()));
            holds(field + " is a constant", KEPT.contains(field.getType()));
        }
        holds(one + " has " + others + " fields", others <= 20);
    }

    /** Rule 11: at most seven parameters. */
    private static void parameters(Class<?> one) {
        for (Method method : one.getDeclaredMethods()) {
            holds(method + " has at most seven parameters", method.getParameterCount() <= 7);
        }
    }
}
