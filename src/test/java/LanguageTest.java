import java.io.IOException;
import java.nio.charset.StandardCharsets;
import java.nio.file.Files;
import java.nio.file.Path;
import java.util.regex.Matcher;
import java.util.regex.Pattern;

/**
 * What of ../shared/LANGUAGE.md can be seen in the text of the class. It uses less than that page leaves: no
 * library at all, no catch, no exception but those of the document.
 */
public final class LanguageTest {
    private static final int MOST_LINES = 60, MOST_PARAMETERS = 7, MOST_CLASSES = 12;

    private static final String[] NOT_THERE = {
        "\\b(package|import|finally|synchronized|assert|instanceof|lambda|try|catch|native|volatile|transient)\\b",
        "->", "::", "\\+ *\"", "\" *\\+", "\\bnew Object\\b", "@\\w+", "\\b(long|double|float|byte|short)\\b",
        "\\b(Math|System|Arrays|Integer|Long|String|StringBuilder|List|ArrayList|Object|Thread|Random)\\b",
        "\\b(protected|abstract|enum|record|interface|extends|implements|super)\\b",
        "\\b(equals|hashCode|toString)\\b",
    };

    private static int count(String pattern, String text) {
        Matcher matcher = Pattern.compile(pattern).matcher(text);
        int found = 0;
        while (matcher.find()) {
            found++;
        }
        return found;
    }

    private static void isNot(String code) {
        for (String pattern : NOT_THERE) {
            Due.is("places with " + pattern, count(pattern, code), 0);
        }
        Due.is("classes", count("\\bclass \\w+", code) <= MOST_CLASSES, true);
        Due.is("public classes", count("\\bpublic (static )?(final )?class\\b", code), 1);
        Due.is("static fields that are not final", count("\\bstatic (?!final)\\w+(\\[\\])? \\w+( =|;|,)", code), 0);
        String thrown = "throw new (IndexOutOfBounds|IllegalArgument|IllegalState)Exception\\(\"[^\"]+\"\\);";
        Due.is("throws of the document's exceptions", count(thrown, code), count("\\bthrow\\b", code));
    }

    /** Each method from its first line to the brace that ends it. */
    private static void methods(String[] lines) {
        int from = -1;
        String indent = "";
        for (int i = 0; i < lines.length; i++) {
            boolean begins = lines[i].matches("^ {4,8}[\\w\\[\\] ]+\\(.*") && !lines[i].contains(" = ") && !lines[i].endsWith(";")
                    && !lines[i].matches("^ *(if|for|while|switch|return|else)\\b.*");
            if (begins && from < 0) {
                from = i;
                indent = lines[i].substring(0, lines[i].indexOf(lines[i].trim()));
                String inside = lines[i].replaceFirst("^[^(]*\\(", "").replaceFirst("\\).*", "");
                Due.is("parameters of " + lines[i].trim(), inside.split(",").length <= MOST_PARAMETERS, true);
            } else if (from >= 0 && lines[i].equals(indent + "}")) {
                Due.is("lines of " + lines[from].trim(), i - from + 1 <= MOST_LINES, true);
                from = -1;
            }
        }
        Due.is("the last method ends", from, -1);
    }

    public static void main(String[] args) throws IOException {
        byte[] bytes = Files.readAllBytes(Path.of("src", "main", "java", "AttribArbor.java"));
        int strange = 0;
        for (byte b : bytes) {
            strange += b < 1 && b != '\n' ? 1 : 0;
        }
        Due.is("signs beyond 127", strange, 0);
        String text = new String(bytes, StandardCharsets.US_ASCII);
        String code = text.replaceAll("(?s)/\\*.*?\\*/", "").replaceAll("//[^\\n]*", "");
        isNot(code);
        methods(code.split("\n"));
        Due.end("LanguageTest");
    }
}
