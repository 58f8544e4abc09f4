import java.io.IOException;
import java.nio.file.Files;
import java.nio.file.Path;
import java.util.ArrayList;
import java.util.List;

/** The words of ../shared/DOC.md, and which of them the tests of boundary cases have told. */
final class Doc {
    static final int TERMS = 0, PROMISES = 39;

    private final String text;
    private final boolean[] told;

    private Doc(String text) {
        this.text = text;
        this.told = new boolean[text.length()];
    }

    /** Where there is no document its words are taken as they are quoted. */
    static Doc read() throws IOException {
        Path path = Path.of("../shared/DOC.md");
        if (!Files.isReadable(path)) {
            System.out.println("bounds: no document is here to hold the quoted words against");
            return new Doc("");
        }
        String plain = Files.readString(path).replace("```text", " ").replace("```", " ");
        return new Doc(plain.replaceAll("\\s+", " "));
    }

    private int from(int promise) {
        return text.indexOf(promise == TERMS ? "## Terms " : "## Promise " + promise + ": ");
    }

    private int to(int promise) {
        if (promise == TERMS) {
            return text.indexOf("Ahead of the calls `feed`");
        }
        return text.indexOf(promise == PROMISES ? "## Not promised" : "## Promise " + (promise + 1) + ": ");
    }

    /** Whether the words stand in the promise, or else ahead of all promises; they are told from now on. */
    boolean tell(int promise, String words) {
        return text.isEmpty() || tell(words, from(promise), to(promise)) || tell(words, 0, to(TERMS));
    }

    private boolean tell(String words, int from, int to) {
        int at = text.indexOf(words, from);
        if (words.isEmpty() || at < 0 || at + words.length() > to) {
            return false;
        }
        for (int i = at; i < at + words.length(); i++) {
            told[i] = true;
        }
        return true;
    }

    /** Sentences of a promise, or of the terms, of which no word has been told. */
    List<String> untold(int promise) {
        List<String> out = new ArrayList<>();
        if (text.isEmpty()) {
            return out;
        }
        int at = promise == TERMS ? from(promise) + "## Terms".length() : text.indexOf("`: ", from(promise)) + 2;
        while (at < to(promise)) {
            int end = endOf(at, to(promise));
            boolean is = text.substring(at, end).isBlank();
            for (int i = at; i < end; i++) {
                is |= told[i];
            }
            if (!is) {
                out.add(text.substring(at, end));
            }
            at = end;
        }
        return out;
    }

    private int endOf(int at, int last) {
        for (int i = at; i < last - 1; i++) {
            if (".;:".indexOf(text.charAt(i)) >= 0 && text.charAt(i + 1) == ' ') {
                return i + 1;
            }
        }
        return last;
    }
}
