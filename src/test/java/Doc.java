import java.io.IOException;
import java.nio.file.Files;
import java.nio.file.Path;
import java.util.ArrayList;
import java.util.List;

/**
 * The words of ../shared/DOC.md: its Terms as number 0, its promises by their numbers. Each boundary test quotes the
 * sentence that it holds the class to; what nobody quoted is told at the end, so that no sentence is forgotten.
 */
final class Doc {
    static final int PROMISES = 49;
    private static final String[] TEXTS = new String[PROMISES + 1];
    private static final boolean[][] QUOTED = new boolean[PROMISES + 1][];

    private Doc() {
    }

    static void read(Path file) throws IOException {
        String all = Files.readString(file).replaceAll("```text|```|\\s+", " ").replaceAll(" +", " ");
        TEXTS[0] = between(all, "## Terms ", " ## Promise 1:").replaceAll("Ahead of the calls .*|=+ [12] ", "");
        for (int p = 1; p <= PROMISES; p++) {
            String next = p < PROMISES ? " ## Promise " + (p + 1) + ":" : " ## Not promised";
            String text = between(all, "## Promise " + p + ": ", next);
            TEXTS[p] = text.substring(text.indexOf("`: ") + 3);
        }
        for (int p = 0; p <= PROMISES; p++) {
            QUOTED[p] = new boolean[TEXTS[p].length()];
        }
    }

    private static String between(String all, String from, String to) {
        int begin = all.indexOf(from) + from.length();
        return all.substring(begin, all.indexOf(to, begin));
    }

    /** Whether the document says so there. */
    static boolean quote(int promise, String words) {
        int at = TEXTS[promise].indexOf(words);
        for (int i = 0; at >= 0 && i < words.length(); i++) {
            QUOTED[promise][at + i] = true;
        }
        return at >= 0;
    }

    /** The parts with letters or figures in them that no test quoted. */
    static List<String> notQuoted() {
        List<String> parts = new ArrayList<>();
        for (int p = 0; p <= PROMISES; p++) {
            StringBuilder open = new StringBuilder();
            for (int i = 0; i <= TEXTS[p].length(); i++) {
                if (i < TEXTS[p].length() && !QUOTED[p][i]) {
                    open.append(TEXTS[p].charAt(i));
                    continue;
                }
                if (open.toString().matches(".*[A-Za-z0-9].*")) {
                    parts.add((p == 0 ? "Terms" : "promise " + p) + ": " + open);
                }
                open.setLength(0);
            }
        }
        return parts;
    }
}
