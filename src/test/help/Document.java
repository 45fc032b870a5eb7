import java.io.IOException;
import java.nio.file.Files;
import java.nio.file.Path;
import java.util.ArrayList;
import java.util.BitSet;
import java.util.LinkedHashMap;
import java.util.List;
import java.util.Map;
import java.util.regex.Matcher;
import java.util.regex.Pattern;

/** The words of ../shared/DOC.md by their places, and which of them a test has quoted. */
final class Document {
    private final Map<String, String> words = new LinkedHashMap<>();
    private final Map<String, BitSet> quoted = new LinkedHashMap<>();

    Document() {
        String all = read();
        put("Use", first(all, "(?m)^(An object is used for .*)$"));
        put("Face", first(all, "public static final int ([^;]*);"));
        String terms = all.substring(all.indexOf("## Terms") + 8, all.indexOf("Ahead of the calls")).replaceAll("```(text)?", " ");
        String[] parts = terms.split("==== [123] ");
        for (int i = 0; i < parts.length; i++) {
            put(i == 0 ? "Terms" : "Terms " + i, parts[i]);
        }
        Matcher promise = Pattern.compile("## (Promise \\d+): \\w+[^`]*`[^`]*`:([^#]*)").matcher(all);
        while (promise.find()) {
            put(promise.group(1), promise.group(2));
        }
    }

    private static String read() {
        try {
            return Files.readString(Path.of("../shared/DOC.md"));
        } catch (IOException e) {
            throw new IllegalStateException("there is no ../shared/DOC.md", e);
        }
    }

    private static String first(String all, String pattern) {
        Matcher matcher = Pattern.compile(pattern).matcher(all);
        return matcher.find() ? matcher.group(1) : "";
    }

    private void put(String place, String text) {
        words.put(place, text.trim().replaceAll("\\s+", " "));
        quoted.put(place, new BitSet());
    }

    /** Marks words as quoted, the next ones that are not yet; whether they are there. */
    boolean quote(String place, String some) {
        String text = words.getOrDefault(place, "");
        int at = text.indexOf(some);
        while (at >= 0 && quoted.get(place).get(at)) {
            at = text.indexOf(some, at + 1);
        }
        if (at < 0) {
            return false;
        }
        quoted.get(place).set(at, at + some.length());
        return true;
    }

    /** What no test has quoted, of the places whose names begin so. */
    List<String> notQuoted(String places) {
        List<String> left = new ArrayList<>();
        for (String place : words.keySet()) {
            if (place.startsWith(places)) {
                addNotQuoted(place, left);
            }
        }
        return left;
    }

    private void addNotQuoted(String place, List<String> left) {
        StringBuilder rest = new StringBuilder();
        String text = words.get(place);
        for (int at = 0; at < text.length(); at++) {
            boolean quotedHere = quoted.get(place).get(at);
            rest.append(quotedHere ? ' ' : text.charAt(at));
        }
        if (rest.toString().matches(".*\\w.*")) {
            left.add(place + ": " + rest.toString().trim().replaceAll("\\s+", " "));
        }
    }

    int places(String begin) {
        return (int) words.keySet().stream().filter(place -> place.startsWith(begin)).count();
    }
}
