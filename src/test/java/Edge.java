import java.io.IOException;
import java.io.UncheckedIOException;
import java.nio.file.Files;
import java.nio.file.Path;
import java.util.Arrays;
import java.util.LinkedHashMap;
import java.util.Map;
import java.util.Set;
import java.util.TreeSet;

/** Binds what is asked to the sentence of the document that it stands for, and sees to it that no sentence is left out. */
final class Edge {
    private static final Path DOCUMENT = Path.of("../shared/DOC.md");
    private static final Map<String, String> SECTIONS = new LinkedHashMap<>();
    private static final Map<String, boolean[]> NAMED = new LinkedHashMap<>();
    private static final Set<String> OPENED = new TreeSet<>();
    private static String open = null;
    private static int askedAhead = 0;

    static {
        readDocument();
    }

    private Edge() {
    }

    private static void readDocument() {
        try {
            for (String part : Files.readString(DOCUMENT).split("\n## ")) {
                int end = Math.max(0, part.indexOf('\n'));
                String title = part.substring(0, end).replaceAll(":.*", "");
                String text = part.substring(end).replaceAll("```\\w*|==== \\d\\.", " ").replaceAll("\\s+", " ");
                SECTIONS.put(title, text);
                NAMED.put(title, new boolean[text.length()]);
            }
        } catch (IOException none) {
            throw new UncheckedIOException(none);
        }
    }

    /** A part of the tests; what the class throws is told with the sentence that was asked then. */
    static void ask(Runnable part) {
        try {
            part.run();
        } catch (RuntimeException | StackOverflowError thrown) {
            Due.blame("threw " + thrown);
        }
    }

    /** What is asked from here on stands for this sentence of this section ("Terms", "Promise 7"). */
    static void of(String section, String sentence) {
        shut();
        open = section + ": " + sentence;
        askedAhead = Due.asked();
        Due.about(open);
        OPENED.add(open);
        String text = SECTIONS.getOrDefault(section, "");
        int at = text.indexOf(sentence);
        if (at < 0) {
            Due.blame("the document does not say so");
            return;
        }
        boolean[] named = NAMED.get(section);
        while (named[at] && text.indexOf(sentence, at + 1) > 0) {
            at = text.indexOf(sentence, at + 1);
        }
        Arrays.fill(named, at, at + sentence.length(), true);
    }

    static Set<String> sentences() {
        return new TreeSet<>(OPENED);
    }

    private static void shut() {
        if (open != null && Due.asked() == askedAhead) {
            Due.blame("nothing is asked");
        }
        open = null;
    }

    /** Each word of the terms and the promises must stand in a sentence that was named. */
    static void close(String test) {
        shut();
        int sections = 0;
        for (Map.Entry<String, String> section : SECTIONS.entrySet()) {
            if (section.getKey().equals("Terms") || section.getKey().startsWith("Promise ")) {
                sections++;
                Due.about(section.getKey());
                findLeftOut(section.getValue(), NAMED.get(section.getKey()));
            }
        }
        Due.about(test);
        Due.is("sections of the document", 37, sections);
        Due.close(test);
    }

    private static void findLeftOut(String text, boolean[] named) {
        StringBuilder left = new StringBuilder();
        for (int i = 0; i < text.length(); i++) {
            left.append(named[i] ? '\n' : text.charAt(i));
        }
        // The promises' signatures stand between back quotes.
        for (String part : left.toString().replaceAll("`[^`]*`", " ").split("\n+")) {
            if (part.matches(".*[A-Za-z0-9].*")) {
                Due.blame("no test stands for: " + part.strip());
            }
        }
    }

    // ---- what the tests of edges share ----

    /** Much of what can be asked without changing anything, in some 110 calls. */
    static String stateOf(WolfKnight x) {
        StringBuilder state = new StringBuilder();
        for (int what = 0; what <= 8; what++) {
            state.append(x.count(what)).append(' ');
        }
        for (int p = 0; p < 12; p++) {
            state.append(x.count(20 + p)).append(' ').append(x.count(40 + p)).append(' ');
            state.append(x.hunted(p, 0)).append(' ').append(x.likes(0, p)).append(' ');
        }
        for (int k = 0; k < 9; k++) {
            for (int what = 0; what <= 4; what++) {
                state.append(x.knightIs(k, what)).append(' ');
            }
        }
        return state.toString();
    }

    static void same(String call, String before, WolfKnight x) {
        Due.yes(call + " changes nothing", before.equals(stateOf(x)));
    }

    /** Place 0 next to all others. */
    static WolfKnight star(int places) {
        WolfKnight x = new WolfKnight();
        for (int p = 0; p < places; p++) {
            x.place(p);
            x.next(0, p, true);
        }
        return x;
    }

    /** Each place next to all others. */
    static WolfKnight web(int places) {
        WolfKnight x = Due.row(places);
        for (int p = 0; p < places; p++) {
            for (int q = 0; q < p; q++) {
                x.next(p, q, true);
            }
        }
        return x;
    }

    /** Lets this many days go by, 240 a call. */
    static void pass(WolfKnight x, int days) {
        for (int left = days; left > 0; left -= 240) {
            x.days(Math.min(left, 240));
        }
    }

    static int nextX(int x) {
        return (int) ((25173L * x + 13849) % 65536);
    }

    /** The least seed whose first draw is this one. */
    static int seedFor(int draw) {
        int x = 0;
        while (nextX(x) % 10 != draw) {
            x++;
        }
        return x;
    }
}
