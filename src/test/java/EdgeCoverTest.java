import java.io.IOException;
import java.nio.file.Files;
import java.nio.file.Path;
import java.util.ArrayList;
import java.util.List;
import java.util.regex.Matcher;
import java.util.regex.Pattern;
import java.util.stream.Stream;

/** No sentence of the document that names an edge is without a test: what no edge test quotes has none of the words for edges. */
public final class EdgeCoverTest {
    private static final Due DUE = new Due();
    private static final Pattern QUOTE = Pattern.compile("EDGE\\.of\\(((?:\"[^\"]*\"\\s*\\+?\\s*)+),");
    private static final Pattern EDGE_WORDS = Pattern.compile("\\d to \\d|at most|at first|\\bleast\\b|\\blast\\b|\\bnone\\b|NONE|nothing|"
        + "[wW]ithout|empty|too many|below|above|goes? round|\\bcan't\\b|UNDONE|-2|-3");

    public static void main(String[] args) throws IOException {
        String document = Files.readString(Path.of("../shared/DOC.md")).replaceAll("\\s+", " ");
        String asked = document.substring(document.indexOf("## Terms"), document.indexOf("## Not promised"));
        List<String> quotes = quotes();
        for (int k = 1; k <= 38; k++) {
            int from = asked.indexOf("## Promise " + k + ":");
            int to = k < 38 ? asked.indexOf("## Promise " + (k + 1) + ":") : asked.length();
            String promise = asked.substring(from, to);
            DUE.is("promise " + k + " is quoted", quotes.stream().anyMatch(promise::contains) ? 1 : 0, 1);
        }
        Matcher left = EDGE_WORDS.matcher(unquoted(asked, quotes));
        StringBuilder found = new StringBuilder();
        while (left.find()) {
            found.append(" '").append(left.group()).append('\'');
        }
        DUE.is("words for edges that no test quotes:" + found, found.length(), 0);
        DUE.close("EdgeCoverTest");
    }

    private static List<String> quotes() throws IOException {
        List<String> quotes = new ArrayList<>();
        try (Stream<Path> files = Files.list(Path.of("src/test/java"))) {
            for (Path file : files.filter(f -> f.toString().endsWith("EdgeTest.java")).toList()) {
                Matcher call = QUOTE.matcher(Files.readString(file));
                while (call.find()) {
                    quotes.add(call.group(1).replaceAll("\"\\s*\\+\\s*\"", "").replaceAll("^\"|\"\\s*$", ""));
                }
            }
        }
        return quotes;
    }

    private static String unquoted(String text, List<String> quotes) {
        char[] left = text.toCharArray();
        for (String quote : quotes) {
            for (int at = text.indexOf(quote); at >= 0; at = text.indexOf(quote, at + 1)) {
                for (int i = at; i < at + quote.length(); i++) {
                    left[i] = '#';
                }
            }
        }
        return new String(left);
    }
}
