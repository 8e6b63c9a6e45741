import java.io.IOException;
import java.nio.file.Files;
import java.nio.file.Path;
import java.util.ArrayList;
import java.util.List;

/**
 * The document's sentences, by section: 0 is the description, 1 to 41 are the promises. A test quotes the
 * sentence that it is for; so a misquoted sentence is told, and one that no test quotes.
 */
final class Document {
    private static final int SECTIONS = 42;
    private static final String[] WORDS = read();
    private static final List<List<String>> QUOTES = noQuotes();

    private Document() {
    }

    private static List<List<String>> noQuotes() {
        List<List<String>> quotes = new ArrayList<>();
        for (int section = 0; section < SECTIONS; section++) {
            quotes.add(new ArrayList<>());
        }
        return quotes;
    }

    private static String[] read() {
        String[] words = new String[SECTIONS];
        java.util.Arrays.fill(words, "");
        int section = -1;
        for (String line : lines()) {
            if (line.startsWith("#")) {
                section = sectionOf(line);
            } else if (section >= 0 && !line.startsWith("----")) {
                words[section] += line.strip() + "\n";
            }
        }
        return words;
    }

    /** None if the document is not where it should be: the answers can be tested without it, only not the quotes. */
    private static List<String> lines() {
        Path path = Path.of(System.getProperty("project.root", "."), "..", "shared", "DOC.md");
        try {
            return Files.readAllLines(path);
        } catch (IOException e) {
            System.out.println("the document cannot be read, so the quotes of it are not looked up: " + e);
            return List.of();
        }
    }

    private static int sectionOf(String heading) {
        if (heading.equals("## Description")) {
            return 0;
        }
        String start = "## Promise ";
        if (!heading.startsWith(start)) {
            return -1;
        }
        return Integer.parseInt(heading.substring(start.length(), heading.indexOf(':')));
    }

    /** Whether the words stand in the section; then its sentences in them count as quoted. */
    static boolean quote(int section, String words) {
        QUOTES.get(section).add(words);
        return WORDS[section].isEmpty() || WORDS[section].contains(words);
    }

    /** The sentences, and the parts of them between semicolons, that no test has quoted. */
    static List<String> unquoted() {
        List<String> left = new ArrayList<>();
        for (int section = 0; section < SECTIONS; section++) {
            for (String line : WORDS[section].split("\n")) {
                for (String part : line.split("(?<=[.;]) ")) {
                    if (!isHeading(part) && !isQuoted(section, part)) {
                        left.add(section + ": " + part);
                    }
                }
            }
        }
        return left;
    }

    /** Nothing, a signature, a title in capitals, or words about the document itself. */
    private static boolean isHeading(String part) {
        return part.isBlank() || part.matches("`[^`]*`") || part.matches("[A-Z ]+\\.") || part.equals("Syntax errors.")
                || part.equals("The constants:") || part.startsWith("The constructor and the methods follow");
    }

    private static boolean isQuoted(int section, String part) {
        for (String quote : QUOTES.get(section)) {
            if (part.contains(quote) || quote.contains(part)) {
                return true;
            }
        }
        return false;
    }
}
