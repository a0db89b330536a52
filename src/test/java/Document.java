import java.io.IOException;
import java.nio.file.Files;
import java.nio.file.Path;
import java.util.ArrayList;
import java.util.List;

/** The words of ../shared/DOC.md: whether each quotation stands in them, and which of them no test quotes. */
final class Document {
    private static final Path PLACE = Path.of("../shared/DOC.md");
    private static final int PROMISES = 27;
    private static final List<String[]> QUOTES = new ArrayList<>();

    private Document() {
    }

    static void quote(int promise, String words) {
        QUOTES.add(new String[] {"" + promise, words});
    }

    static int quotes() {
        return QUOTES.size();
    }

    /** What is amiss, a line each; nothing if all is well. */
    static List<String> amiss() throws IOException {
        List<String> rows = new ArrayList<>();
        if (!Files.exists(PLACE)) {
            System.out.println("no " + PLACE + " here: the quotations are not looked up");
            return rows;
        }
        String text = Files.readString(PLACE);
        int[] begins = new int[PROMISES + 2];
        String[] sections = new String[PROMISES + 1];
        StringBuilder all = new StringBuilder();
        for (int i = 0; i <= PROMISES; i++) {
            begins[i] = all.length();
            sections[i] = i == 0 ? terms(text) : section(text, "## Promise " + i + ":");
            all.append(sections[i]).append('\n');
        }
        begins[PROMISES + 1] = all.length();
        boolean[] quoted = new boolean[all.length()];
        boolean[] tested = new boolean[PROMISES + 1];
        for (String[] q : QUOTES) {
            int promise = Integer.parseInt(q[0]);
            tested[promise] = true;
            boolean stands = mark(sections[0], begins[0], q[1], quoted);
            stands = mark(sections[promise], begins[promise], q[1], quoted) || stands;
            if (!stands) {
                rows.add("promise " + promise + ": the document has no \"" + q[1] + "\"");
            }
        }
        for (int i = 1; i <= PROMISES; i++) {
            if (!tested[i]) {
                rows.add("promise " + i + " has no test");
            }
        }
        bareWords(all.toString(), quoted, rows);
        return rows;
    }

    /** The terms, and before them what is said of the calls of an object. */
    private static String terms(String text) {
        String uses = section(text, "## What it is");
        int at = uses.indexOf("An object is used");
        return (at < 0 ? "" : uses.substring(at)) + " " + section(text, "## Terms");
    }

    private static String section(String text, String heading) {
        int at = text.indexOf(heading);
        if (at < 0) {
            return "";
        }
        int from = text.indexOf('\n', at);
        int to = text.indexOf("\n## ", from);
        String body = text.substring(from, to < 0 ? text.length() : to);
        body = body.replaceAll("```\\w*", " ").replaceAll("`[^`]*\\([^`]*`:", " ").replaceAll("==== \\d\\.", " ");
        return body.replaceAll("\\s+", " ").trim();
    }

    private static boolean mark(String section, int begin, String words, boolean[] quoted) {
        boolean found = false;
        for (int at = section.indexOf(words); at >= 0; at = section.indexOf(words, at + 1)) {
            found = true;
            for (int i = 0; i < words.length(); i++) {
                quoted[begin + at + i] = true;
            }
        }
        return found;
    }

    /** Every word of the terms and promises stands in some quotation. */
    private static void bareWords(String all, boolean[] quoted, List<String> rows) {
        int from = -1;
        for (int i = 0; i <= all.length(); i++) {
            boolean bare = i < all.length() && !quoted[i] && all.charAt(i) != '\n';
            if (bare && from < 0) {
                from = i;
            }
            if (!bare && from >= 0) {
                String words = all.substring(from, i);
                if (words.matches(".*\\w.*")) {
                    rows.add("no test quotes \"" + words + "\"");
                }
                from = -1;
            }
        }
    }
}
