import java.io.IOException;
import java.nio.file.Files;
import java.nio.file.Path;
import java.util.ArrayList;
import java.util.Arrays;
import java.util.LinkedHashMap;
import java.util.List;
import java.util.Map;
import java.util.regex.Matcher;
import java.util.regex.Pattern;

/**
 * The document's words: a test that quotes them must quote them as they stand, and what no test
 * quotes can be told.
 */
final class Document {
    private static final Pattern PROMISE = Pattern.compile("## (Promise [0-9]+): .*?`: (.*?)(?=## |$)");
    private static final Pattern TERMS = Pattern.compile("## Terms (.*?)==== 2\\. (.*?)==== 3\\. (.*?)(?=## |$)");
    private static final Pattern USE = Pattern.compile("## (What it is) (.*?)(?=## |$)");

    private final Map<String, String> parts = new LinkedHashMap<>();
    private final Map<String, boolean[]> quoted = new LinkedHashMap<>();

    private Document(String text) {
        String plain = text.replace("```text", "").replace("```", "").replaceAll("\\s+", " ");
        Matcher use = USE.matcher(plain);
        if (use.find()) {
            add(use.group(1), use.group(2));
        }
        Matcher terms = TERMS.matcher(plain);
        if (terms.find()) {
            for (int part = 1; part <= 3; part++) {
                add("Terms " + part, terms.group(part));
            }
        }
        Matcher promise = PROMISE.matcher(plain);
        while (promise.find()) {
            add(promise.group(1), promise.group(2));
        }
    }

    private void add(String part, String words) {
        parts.put(part, words);
        quoted.put(part, new boolean[words.length()]);
    }

    /** Null if it isn't there to be read. */
    static Document at(String path) {
        try {
            return new Document(Files.readString(Path.of(path)));
        } catch (IOException e) {
            return null;
        }
    }

    /** Whether these words are in that part. */
    boolean quote(String part, String words) {
        String all = parts.getOrDefault(part, "");
        int from = all.indexOf(words);
        if (from < 0) {
            return false;
        }
        Arrays.fill(quoted.get(part), from, from + words.length(), true);
        return true;
    }

    /** What no test has quoted of the terms and the promises. */
    List<String> notQuoted() {
        List<String> left = new ArrayList<>();
        for (String part : parts.keySet()) {
            if (!part.equals("What it is")) {
                for (String words : unmarked(parts.get(part), quoted.get(part))) {
                    left.add(part + " \"" + words + "\"");
                }
            }
        }
        return left;
    }

    int size() {
        return parts.size();
    }

    private static List<String> unmarked(String words, boolean[] marks) {
        StringBuilder kept = new StringBuilder();
        for (int k = 0; k < marks.length; k++) {
            kept.append(marks[k] ? '\n' : words.charAt(k));
        }
        List<String> left = new ArrayList<>();
        for (String piece : kept.toString().split("\n+")) {
            if (piece.matches(".*[A-Za-z0-9].*")) {
                left.add(piece.trim());
            }
        }
        return left;
    }
}
