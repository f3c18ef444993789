import java.io.IOException;
import java.nio.file.Files;
import java.nio.file.Path;
import java.util.Set;
import java.util.regex.Matcher;
import java.util.regex.Pattern;

/** Rule 4 of LANGUAGE.md: the class uses no more of the library than the rule names. */
public final class LanguageTest {
    /* Of "and their like" nothing is taken: a function that stands there by name is allowed for sure. */
    private static final Set<String> ALLOWED = Set.of(
            "Math.min", "Math.max", "Math.abs", "Math.floorDiv", "Math.floorMod",
            "Integer.compare", "Integer.max", "Integer.min", "Integer.bitCount",
            "Long.compare", "Long.max", "Long.min", "Long.bitCount",
            "System.arraycopy", "Arrays.copyOf", "Arrays.copyOfRange", "Arrays.fill");
    private static final Set<String> IMPORTS = Set.of(
            "java.util.Arrays", "java.util.NoSuchElementException", "java.util.ArrayList", "java.util.List");

    public static void main(String[] args) throws IOException {
        String text = withoutComments(Files.readString(Path.of("src/main/java/ModuleHouse.java")));
        Matcher own = Pattern.compile("\\bclass (\\w+)").matcher(text);
        StringBuilder ownNames = new StringBuilder(" ");
        while (own.find()) {
            ownNames.append(own.group(1)).append(' ');
        }
        Matcher imported = Pattern.compile("\\bimport ([\\w.*]+);").matcher(text);
        while (imported.find()) {
            Support.due("import of " + imported.group(1), IMPORTS.contains(imported.group(1)) ? 1 : 0, 1);
        }
        Matcher used = Pattern.compile("\\b([A-Z]\\w*[a-z]\\w*)\\.(\\w+)").matcher(text);
        while (used.find()) {
            boolean good = ownNames.indexOf(" " + used.group(1) + " ") >= 0 || ALLOWED.contains(used.group());
            Support.due("use of " + used.group(), good ? 1 : 0, 1);
        }
        Support.end();
    }

    private static String withoutComments(String text) {
        return text.replaceAll("(?s)/\\*.*?\\*/", "").replaceAll("//[^\n]*", "");
    }
}
