import java.io.IOException;
import java.nio.file.DirectoryStream;
import java.nio.file.Files;
import java.nio.file.Path;
import java.util.Arrays;
import java.util.regex.Matcher;
import java.util.regex.Pattern;

/** All words of the document's terms and promises are cited by a test of their edges. */
public final class CitedTest {
    private static final String LITERAL = "\"(?:[^\"\\\\]|\\\\.)*\"";
    private static final Pattern CITED = Pattern.compile("Edges\\.words\\(\\s*(" + LITERAL + "(?:\\s*\\+\\s*" + LITERAL + ")*)\\)");

    private CitedTest() {
    }

    public static void main(String[] args) throws IOException {
        String all = termsAndPromises();
        boolean[] isCited = new boolean[all.length()];
        try (DirectoryStream<Path> tests = Files.newDirectoryStream(Path.of("src/test/java"), "Edges*Test.java")) {
            for (Path test : tests) {
                Matcher cited = CITED.matcher(Files.readString(test));
                while (cited.find()) {
                    mark(all, isCited, cited.group(1).replaceAll("\"\\s*\\+\\s*\"", "").replaceAll("^\"|\"$", ""));
                }
            }
        }
        char[] left = all.toCharArray();
        for (int i = 0; i < left.length; i++) {
            left[i] = isCited[i] ? '|' : left[i];
        }
        for (String piece : new String(left).split("\\|+")) {
            Due.holds("cited: " + piece, !Pattern.compile("\\w").matcher(piece).find());
        }
        Due.end();
    }

    private static void mark(String all, boolean[] isCited, String words) {
        int from = all.indexOf(words);
        Due.holds("in the terms or the promises: " + words, from >= 0);
        for (; from >= 0; from = all.indexOf(words, from + 1)) {
            Arrays.fill(isCited, from, from + words.length(), true);
        }
    }

    /** Without headings, fences, the calls themselves, and what stands ahead of the calls. */
    private static String termsAndPromises() throws IOException {
        String document = Files.readString(Path.of("../shared/DOC.md"));
        String text = document.substring(document.indexOf("## Terms"), document.indexOf("## Not promised"));
        return text.replaceAll("(?m)^(#+ .*|```.*|Ahead of the calls .*)$", "").replaceAll("`[^`]*`:", "").replaceAll("={3,} \\d", "")
            .replaceAll("\\s+", " ");
    }
}
