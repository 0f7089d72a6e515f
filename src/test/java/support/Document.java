import java.io.IOException;
import java.nio.charset.StandardCharsets;
import java.nio.file.Files;
import java.nio.file.Path;
import java.util.ArrayList;
import java.util.LinkedHashMap;
import java.util.List;
import java.util.Map;
import java.util.regex.Matcher;
import java.util.regex.Pattern;

/**
 * ../shared/DOC.md by its sections: a test quotes a sentence ahead of what it tries, and at the end it is
 * told what of the sections nobody has quoted. If the document is not there, nothing is compared.
 */
final class Document {
    private static final Path PLACE = Path.of("..", "shared", "DOC.md");
    private static final Path CLASS = Path.of("src", "main", "java", "AttribArbor.java");
    private static final Pattern WORD = Pattern.compile("[A-Za-z0-9_+*-]+");

    private static final class Section {
        final String title;
        final List<String> words = new ArrayList<>();
        final StringBuilder code = new StringBuilder();
        boolean[] quoted;

        Section(String title) {
            this.title = title;
        }
    }

    private final Map<String, Section> sections = new LinkedHashMap<>();
    private final boolean isThere = Files.isReadable(PLACE);
    private Section now = new Section("");

    Document() {
        if (!isThere) {
            System.out.println("the document is not there, quotes are not compared");
            return;
        }
        Section section = now;
        boolean inCode = false;
        for (String line : textOf(PLACE).split("\n")) {
            if (line.startsWith("```")) {
                inCode = !inCode;
            } else if (inCode) {
                section.code.append(line).append('\n');
            } else if (line.startsWith("#")) {
                section = new Section(line.replaceFirst("^#+ ", ""));
                sections.put(section.title, section);
            } else {
                section.words.addAll(wordsOf(line.replaceFirst("^- ", "")));
            }
        }
    }

    private static String textOf(Path place) {
        try {
            return Files.readString(place, StandardCharsets.UTF_8);
        } catch (IOException e) {
            throw new IllegalStateException(place + " can't be read", e);
        }
    }

    /** The text of the class. */
    static String source() {
        return textOf(CLASS);
    }

    private static List<String> wordsOf(String text) {
        List<String> words = new ArrayList<>();
        Matcher word = WORD.matcher(text);
        while (word.find()) {
            words.add(word.group());
        }
        return words;
    }

    /** What is quoted from here on stands in this section. */
    void section(String title) {
        if (!isThere) {
            return;
        }
        Due.is("there is a section '" + title + "'", sections.containsKey(title), true);
        now = sections.getOrDefault(title, new Section(title));
        now.quoted = new boolean[now.words.size()];
    }

    /** Marks a sentence, or a part of one, as tried by what stands behind this call. */
    void says(String quote) {
        if (!isThere) {
            return;
        }
        List<String> words = wordsOf(quote);
        boolean isSaid = false;
        for (int from = 0; from + words.size() <= now.words.size(); from++) {
            if (now.words.subList(from, from + words.size()).equals(words)) {
                isSaid = true;
                for (int i = 0; i < words.size(); i++) {
                    now.quoted[from + i] = true;
                }
            }
        }
        Due.is("'" + now.title + "' says: " + quote, isSaid, true);
    }

    /** The code that stands in the section. */
    String code() {
        return now.code.toString();
    }

    /** From the first section that was opened up to the one of this title (or the end) each word has to be quoted. */
    void allIsQuotedUpTo(String end) {
        boolean within = false;
        for (Section section : sections.values()) {
            within = (within || section.quoted != null) && !section.title.equals(end);
            StringBuilder open = new StringBuilder();
            for (int i = 0; within && i < section.words.size(); i++) {
                boolean isQuoted = section.quoted != null && section.quoted[i];
                open.append(isQuoted ? "" : " " + section.words.get(i));
            }
            Due.is("'" + section.title + "', not tried:" + open, open.length() == 0, true);
        }
    }
}
