import java.io.IOException;
import java.nio.file.Files;
import java.nio.file.Path;
import java.util.ArrayList;
import java.util.LinkedHashMap;
import java.util.List;
import java.util.Map;
import java.util.regex.Matcher;
import java.util.regex.Pattern;

/**
 * Tests of edges, each told by the document's own words: they must stand where the test says they do, an answer must be
 * asked for each of them, and what of the document sounds like an edge must stand among the words of some test.
 */
final class Edges {
    private final Checks checks = new Checks();
    private final Map<String, String> places = new LinkedHashMap<>();
    private final Map<String, List<int[]>> told = new LinkedHashMap<>();
    private String now = "";
    private int answers = 1;

    Edges() throws IOException {
        String doc = Files.readString(Path.of("../shared/DOC.md"));
        String terms = doc.substring(doc.indexOf("## Terms"), doc.indexOf("## Promise 1:"));
        Matcher word = Pattern.compile("(?ms)^(I|II|III|IV)\\. (.*?)(?=^(?:I|II|III|IV)\\. |\\z)").matcher(terms);
        while (word.find()) {
            place(word.group(1), word.group(2));
        }
        Matcher promise = Pattern.compile("(?s)## Promise (\\d+): \\w[^\n]*\n\\s*`[^`]*`: (.*?)(?=\n## |\\z)").matcher(doc);
        while (promise.find()) {
            place(promise.group(1), promise.group(2));
        }
        checks.due("the words and promises of the document", places.size(), 45);
    }

    private void place(String name, String text) {
        places.put(name, plain(text));
        told.put(name, new ArrayList<>());
    }

    private static String plain(String text) {
        return text.replaceAll("\\s+", " ");
    }

    void words(int promise, String words) {
        words("" + promise, words);
    }

    /** The answers that are asked from here on are due by these words. */
    void words(String place, String words) {
        checks.due("answers by " + now, answers > 0 ? 1 : 0, 1);
        now = place + " \u00ab" + words + "\u00bb";
        answers = 0;
        String text = places.getOrDefault(place, "");
        int from = text.indexOf(words);
        checks.due("words of the document: " + now, from >= 0 ? 1 : 0, 1);
        while (from >= 0) {
            told.getOrDefault(place, new ArrayList<>()).add(new int[] {from, from + words.length()});
            from = text.indexOf(words, from + 1);
        }
    }

    void due(String call, long got, long want) {
        answers++;
        checks.due(now + ": " + call, got, want);
    }

    /** Each place at which a pattern is found must lie within words that were told. */
    void allTold(String place, String edges) {
        Matcher m = Pattern.compile(edges).matcher(places.getOrDefault(place, ""));
        while (m.find()) {
            boolean within = false;
            for (int[] one : told.get(place)) {
                within |= one[0] <= m.start() && m.end() <= one[1];
            }
            String text = places.get(place);
            String around = text.substring(Math.max(0, m.start() - 30), Math.min(text.length(), m.end() + 30));
            checks.due("told by a test: " + place + " .." + around + "..", within ? 1 : 0, 1);
        }
    }

    void close(String name) {
        checks.due("answers by " + now, answers > 0 ? 1 : 0, 1);
        checks.close(name);
    }
}
