import java.util.ArrayList;
import java.util.List;
import java.util.regex.Matcher;
import java.util.regex.Pattern;

/** The words of the document, in parts (0 how often an object is used, and the Terms; the others the promises), and which of them a test quotes. */
final class Words {
    static final int PROMISES = 35;
    private final String[] parts = new String[PROMISES + 1];
    private final boolean[][] quoted = new boolean[PROMISES + 1][];

    Words(String document) {
        parts[0] = between(document, "\nAn object is used", "## The public face")
            + between(document, "## Terms", "Ahead of the calls `guest`").replaceAll("## Terms|```(text)?|==== \\d", "");
        Matcher promise = Pattern.compile("## Promise (\\d+): .*\\s+`.*?`: (.*)").matcher(document);
        while (promise.find()) {
            parts[Integer.parseInt(promise.group(1))] = promise.group(2);
        }
        for (int i = 0; i <= PROMISES; i++) {
            parts[i] = parts[i].replaceAll("\\s+", " ").trim();
            quoted[i] = new boolean[parts[i].length()];
        }
    }

    private static String between(String document, String first, String end) {
        return document.substring(document.indexOf(first), document.indexOf(end));
    }

    /** Whether these words stand just once in what is said of the promise, or, if not there, in the Terms. */
    boolean quotes(int promise, String words) {
        int part = parts[promise].contains(words) ? promise : 0;
        int at = parts[part].indexOf(words);
        for (int i = 0; i < words.length() && at >= 0; i++) {
            quoted[part][at + i] = true;
        }
        return at >= 0 && parts[part].indexOf(words, at + 1) < 0;
    }

    /** What no test quotes, but for signs between. */
    List<String> unquoted() {
        List<String> rest = new ArrayList<>();
        for (int part = 0; part <= PROMISES; part++) {
            StringBuilder open = new StringBuilder();
            for (int i = 0; i < quoted[part].length; i++) {
                open.append(quoted[part][i] ? '\n' : parts[part].charAt(i));
            }
            for (String words : open.toString().split("\n+")) {
                if (words.matches(".*\\w.*")) {
                    rest.add((part == 0 ? "Terms: " : "Promise " + part + ": ") + words.trim());
                }
            }
        }
        return rest;
    }
}
