import java.io.IOException;
import java.nio.file.DirectoryStream;
import java.nio.file.Files;
import java.nio.file.Path;
import java.util.ArrayList;
import java.util.LinkedHashMap;
import java.util.List;
import java.util.Map;
import java.util.regex.Matcher;
import java.util.regex.Pattern;

/** Every sentence of the document's terms and promises has a test of its own: one that quotes it in Check.of(..). */
public final class SentenceTest {
    private static final Path DOCUMENT = Path.of("../shared/DOC.md");
    private static final Path TESTS = Path.of("src/test/java");
    private static final String[] NUMERALS = {"I", "II", "III", "IV", "V"};

    public static void main(String[] args) throws IOException {
        Map<String, String> parts = partsOf(Files.readString(DOCUMENT));
        Check.due("terms and promises", parts.size(), 5 + 62);
        Map<String, List<String>> quotes = new LinkedHashMap<>();
        try (DirectoryStream<Path> files = Files.newDirectoryStream(TESTS, "Edge*Test.java")) {
            for (Path file : files) {
                Matcher m = Pattern.compile("Check\\.of\\(\"([PT]\\d+)\", \"([^\"]*)\"\\)").matcher(Files.readString(file));
                while (m.find()) {
                    quotes.computeIfAbsent(m.group(1), k -> new ArrayList<>()).add(m.group(2));
                    boolean there = parts.getOrDefault(m.group(1), "").contains(m.group(2));
                    Check.due(m.group(1) + " says \"" + m.group(2) + "\"", there ? 1 : 0, 1);
                }
            }
        }
        for (Map.Entry<String, String> part : parts.entrySet()) {
            for (String sentence : sentencesOf(part.getValue())) {
                boolean quoted = false;
                for (String quote : quotes.getOrDefault(part.getKey(), List.of())) {
                    quoted |= sentence.contains(quote) || quote.contains(sentence);
                }
                Check.due(part.getKey() + " has a test of \"" + sentence + "\"", quoted ? 1 : 0, 1);
            }
        }
        Check.finish("SentenceTest");
    }

    /** The terms as T1 to T5, the promises as P1 to P62. */
    private static Map<String, String> partsOf(String document) {
        Map<String, String> parts = new LinkedHashMap<>();
        for (int i = 0; i < NUMERALS.length; i++) {
            Matcher m = Pattern.compile("(?m)^" + NUMERALS[i] + "\\. (.*)$").matcher(document);
            if (m.find()) {
                parts.put("T" + (i + 1), m.group(1));
            }
        }
        Matcher block = Pattern.compile("(?s)```text\n(.*?)```").matcher(document);
        if (block.find()) {
            parts.merge("T1", " " + block.group(1).strip().replaceAll("\n\\s*", " "), String::concat);
        }
        Matcher m = Pattern.compile("## Promise (\\d+): .*\n\n`[^`]*`: (.*)\n").matcher(document);
        while (m.find()) {
            parts.put("P" + m.group(1), m.group(2));
        }
        return parts;
    }

    /** Parted at a full stop or a semicolon that stands outside brackets; two dots are from .. to. */
    private static List<String> sentencesOf(String text) {
        List<String> sentences = new ArrayList<>();
        int depth = 0;
        int from = 0;
        for (int i = 0; i < text.length(); i++) {
            char sign = text.charAt(i);
            depth += sign == '(' || sign == '{' ? 1 : sign == ')' || sign == '}' ? -1 : 0;
            boolean last = i + 1 == text.length() || text.charAt(i + 1) == ' ';
            boolean dots = sign == '.' && i > 0 && text.charAt(i - 1) == '.';
            boolean alone = i > 0 && text.charAt(i - 1) == ' ';
            if (depth == 0 && last && !dots && !alone && (sign == '.' || sign == ';')) {
                sentences.add(text.substring(from, i).strip());
                from = i + 1;
            }
        }
        if (!text.substring(from).isBlank()) {
            sentences.add(text.substring(from).strip());
        }
        return sentences;
    }
}
