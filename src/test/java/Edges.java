import java.io.IOException;
import java.io.UncheckedIOException;
import java.nio.file.Files;
import java.nio.file.Path;
import java.util.ArrayList;
import java.util.Arrays;
import java.util.List;
import java.util.Set;
import java.util.TreeSet;
import java.util.regex.Matcher;
import java.util.regex.Pattern;

/**
 * What the edge tests share: the words of the document that a test holds the class to, calls with
 * the answer that is due, and houses brought to an edge. The words are looked up in the document,
 * so that no test holds the class to a sentence that isn't there.
 */
final class Edges {
    static final int MIN = Integer.MIN_VALUE;
    static final int MAX = Integer.MAX_VALUE;
    static final int NONE = -1;

    private static final int MOST_TOLD = 60;
    private static final String DOC = document();
    /** What stands between the sentences: marks of the parts, headings with their signatures. */
    private static final Pattern FRAME = Pattern.compile(
            "```text|```|==== [IV]+\\.|The constants:|## Promise \\d+: [A-Za-z ]+ `[^`]*`:");
    private static final Set<Integer> PROMISES = new TreeSet<>();
    private static final boolean[] HELD = new boolean[DOC.length()];
    private static String sentence = "";
    private static int sentences = 0;
    private static int calls = 0;
    private static int wrong = 0;

    private Edges() {
    }

    private static String document() {
        try {
            return plain(Files.readString(Path.of("../shared/DOC.md")));
        } catch (IOException e) {
            throw new UncheckedIOException(e);
        }
    }

    private static String plain(String text) {
        return text.replaceAll("\\s+", " ");
    }

    /** From here on: words that stand under this promise. */
    static void promise(int number, String words) {
        PROMISES.add(number);
        int from = DOC.indexOf("## Promise " + number + ":");
        hold("Promise " + number, words, from, DOC.indexOf("## ", from + 3));
    }

    /** From here on: words that stand ahead of the promises. */
    static void term(String words) {
        hold("Terms", words, 0, DOC.indexOf("## Promise 1:"));
    }

    private static void hold(String where, String words, int from, int to) {
        sentence = where + ", \"" + words + "\"";
        sentences++;
        int at = DOC.indexOf(plain(words), from);
        if (at < 0 || at + plain(words).length() > to) {
            tell("isn't in the document");
            return;
        }
        Arrays.fill(HELD, at, at + plain(words).length(), true);
    }

    /** From "Terms" to "Not promised" each word is one that some test holds the class to. */
    private static void everyWordIsHeld() {
        sentence = "The document";
        int from = DOC.indexOf("## Terms") + "## Terms".length();
        int to = DOC.indexOf("## Not promised");
        for (Matcher frame = FRAME.matcher(DOC); frame.find();) {
            Arrays.fill(HELD, frame.start(), frame.end(), true);
        }
        for (int at = from; at < to; at++) {
            int end = at;
            while (end < to && !HELD[end]) {
                end++;
            }
            if (DOC.substring(at, end).matches(".*\\w.*")) {
                tell("no test holds the class to \"" + DOC.substring(at, end).trim() + "\"");
            }
            at = end;
        }
    }

    static void due(String call, long got, long want) {
        calls++;
        if (got != want) {
            tell(call + " answered " + got + ", due is " + want);
        }
    }

    static void due(String call, boolean got, boolean want) {
        due(call, got ? 1 : 0, want ? 1 : 0);
    }

    static void like(String what, List<Long> got, List<Long> want) {
        calls++;
        if (!got.equals(want)) {
            tell(what + ": " + got + ", due is " + want);
        }
    }

    private static void tell(String what) {
        wrong++;
        if (wrong <= MOST_TOLD) {
            System.out.println(sentence + ": " + what);
        }
    }

    static void finish() {
        for (int i = 1; i <= 48; i++) {
            if (!PROMISES.contains(i)) {
                tell("promise " + i + " has no edge test");
            }
        }
        everyWordIsHeld();
        System.out.println(wrong == 0 ? "edges: " + sentences + " sentences, " + calls
                + " answers, all as due" : wrong + " wrong");
        System.exit(wrong == 0 ? 0 : 1);
    }

    // ---- houses

    /** Puts bytes on the tape, which is cut ahead of them. */
    static void tape(LeavenHouse x, String t) {
        x.end(0);
        for (int at = 0; at < t.length(); at += 20) {
            int[] w = new int[5];
            for (int i = 0; i < 20; i++) {
                w[i / 4] = w[i / 4] << 8 | (at + i < t.length() ? t.charAt(at + i) : ' ');
            }
            x.feed(w[0], w[1], w[2], w[3], w[4]);
        }
        x.end(t.length());
    }

    static int read(LeavenHouse x, String t) {
        tape(x, t);
        return x.text();
    }

    /** A new house ruled by the text. */
    static LeavenHouse ruled(String t) {
        LeavenHouse x = new LeavenHouse();
        rule(x, t);
        return x;
    }

    static void rule(LeavenHouse x, String t) {
        int text = read(x, t);
        due("by the text " + t, text >= 0 && x.by(text), true);
    }

    /** A house in which nothing tires, behind so many days. */
    static LeavenHouse at(int day) {
        LeavenHouse x = ruled("tires 0;");
        for (int left = day; left > 0; left -= 60) {
            x.day(Math.min(60, left));
        }
        due("is(0)", x.is(0), day);
        return x;
    }

    /** Crocks 0 .. 7 with 1, 2, 4 .. 128 pounds. */
    static LeavenHouse full() {
        LeavenHouse x = new LeavenHouse();
        fill(x);
        return x;
    }

    static void fill(LeavenHouse x) {
        for (int i = 0; i < 7; i++) {
            x.join(i, i);
        }
    }

    /** By halves, crock 0 keeping its pound: the crock with so many pounds. */
    static int heavy(LeavenHouse x, int pounds) {
        int at = 0;
        for (int bit = 30 - Integer.numberOfLeadingZeros(pounds); bit >= 0; bit--) {
            for (int i = 0; i <= (pounds >> bit & 1); i++) {
                int next = x.join(at, i == 0 ? at : 0);
                if (at != 0) {
                    x.pour(at);
                }
                at = next;
            }
        }
        due("heavy " + pounds, x.of(at, 0), pounds);
        return at;
    }

    static void undoAll(LeavenHouse x) {
        for (int i = 0; i < 31 && x.undo() > 0; i++) {
            continue;
        }
    }

    static int drawn(int x) {
        return (x * 683 + 563) % 30997;
    }

    static int drawn(int x, int times) {
        return times == 0 ? x : drawn(drawn(x), times - 1);
    }

    /** What steps change: pounds, ages, day, X, fund and the book. */
    static List<Long> house(LeavenHouse x) {
        List<Long> all = new ArrayList<>();
        for (int i = 0; i < 8; i++) {
            all.add((long) x.of(i, 0));
            all.add((long) x.of(i, 1));
        }
        for (int i = 0; i < 3; i++) {
            all.add((long) x.is(i));
        }
        int lines = x.book(NONE, 0);
        all.add((long) lines);
        for (int i = 0; i < lines; i++) {
            for (int what = 0; what < 4; what++) {
                all.add((long) x.book(i, what));
            }
        }
        return all;
    }

    /** All that can be seen of a house but what is asked of numbers alone. */
    static List<Long> all(LeavenHouse x) {
        List<Long> all = house(x);
        for (int i = 0; i < 8; i++) {
            all.add((long) x.of(i, 2));
            all.add((long) x.of(i, 3));
        }
        for (int i = 0; i < 7; i++) {
            all.add((long) x.about(i));
        }
        all.add((long) x.fault(0));
        all.add((long) x.fault(1));
        all.add((long) x.whose());
        all.add((long) x.made(NONE));
        all.add((long) x.wrong());
        all.add((long) x.needless());
        return all;
    }
}
