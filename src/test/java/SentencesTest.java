import java.io.IOException;
import java.nio.file.DirectoryStream;
import java.nio.file.Files;
import java.nio.file.Path;
import java.util.ArrayList;
import java.util.List;
import java.util.regex.Matcher;
import java.util.regex.Pattern;

/**
 * Holds the sentences that the tests of the bounds name against the document: each of them stands there, under its
 * promise or under the terms, and no part of a promise or of the terms is named by none.
 */
public final class SentencesTest {
    private static final Path DOCUMENT = Path.of("../shared/DOC.md");
    private static final Path TESTS = Path.of("src/test/java");
    private static final int PROMISES = 28;
    private static final Pattern NAMED = Pattern.compile("\\bsentence\\((\\d+), ((?:\"[^\"]*\"|[\\s+])+)\\)");
    private static final Check CHECK = new Check();

    private static final class Sentence {
        final int promise;
        final String words;

        Sentence(int promise, String words) {
            this.promise = promise;
            this.words = words;
        }
    }

    public static void main(String[] args) throws IOException {
        if (!Files.exists(DOCUMENT)) {
            System.out.println("there is no " + DOCUMENT + " to hold the sentences against");
            return;
        }
        String document = Files.readString(DOCUMENT);
        List<Sentence> named = sentences();
        String terms = section(document, "## Terms\n");
        String about = section(document, "## What it is\n");
        eachStandsThere(named, document, terms + about);
        for (int promise = 1; promise <= PROMISES; promise++) {
            CHECK.promise("promise " + promise);
            String text = promiseText(document, promise);
            allIsNamed(text.substring(text.indexOf("`: ") + 3), of(promise, named));
        }
        CHECK.promise("terms");
        String told = terms.replaceAll("```(text)?|==== [0-9]\\.|The constants:", "");
        allIsNamed(told, of(0, named));
        CHECK.finish();
    }

    private static List<Sentence> sentences() throws IOException {
        List<Sentence> named = new ArrayList<>();
        try (DirectoryStream<Path> files = Files.newDirectoryStream(TESTS, "*BoundsTest.java")) {
            for (Path file : files) {
                Matcher m = NAMED.matcher(Files.readString(file));
                while (m.find()) {
                    String words = m.group(2).replaceAll("\"\\s*\\+\\s*\"", "").replace("\"", "");
                    named.add(new Sentence(Integer.parseInt(m.group(1)), words.trim()));
                }
            }
        }
        return named;
    }

    /** The words that name a promise; of all for 0. */
    private static List<String> of(int promise, List<Sentence> named) {
        List<String> words = new ArrayList<>();
        for (Sentence s : named) {
            if (promise == 0 || s.promise == promise) {
                words.add(s.words);
            }
        }
        return words;
    }

    private static String section(String document, String heading) {
        int from = document.indexOf(heading);
        CHECK.due("there is " + heading.trim(), from >= 0, true);
        int start = Math.max(from, 0) + heading.length();
        int end = document.indexOf("\n## ", start);
        return document.substring(start, end < 0 ? document.length() : end);
    }

    private static String promiseText(String document, int promise) {
        Matcher m = Pattern.compile("## Promise " + promise + ": .*\n").matcher(document);
        CHECK.due("there is promise " + promise, m.find(), true);
        return section(document, m.group());
    }

    private static void eachStandsThere(List<Sentence> named, String document, String terms) {
        for (Sentence s : named) {
            CHECK.promise("promise " + s.promise);
            boolean stands = terms.contains(s.words) || promiseText(document, s.promise).contains(s.words);
            CHECK.due("\"" + s.words + "\" stands in the document", stands, true);
        }
    }

    private static void allIsNamed(String text, List<String> named) {
        boolean[] covered = new boolean[text.length()];
        for (String words : named) {
            for (int at = text.indexOf(words); at >= 0; at = text.indexOf(words, at + 1)) {
                for (int i = 0; i < words.length(); i++) {
                    covered[at + i] = true;
                }
            }
        }
        StringBuilder left = new StringBuilder();
        for (int i = 0; i < covered.length; i++) {
            left.append(covered[i] ? "\n" : text.charAt(i));
        }
        for (String words : left.toString().split("\n+")) {
            CHECK.due("\"" + words.trim() + "\" is named by no test", words.matches(".*[A-Za-z0-9].*"), false);
        }
    }
}
