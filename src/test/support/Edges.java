import java.io.IOException;
import java.io.UncheckedIOException;
import java.nio.file.Files;
import java.nio.file.Path;
import java.util.Map;
import java.util.TreeMap;
import java.util.regex.Matcher;
import java.util.regex.Pattern;

/**
 * What the tests of edges have in common. Each test names the words of the document that it is for;
 * end() fails if words of the test's promises were named by none. What a refused call leaves
 * unchanged is seen by twins: two objects with one history, of which one had the call refused.
 */
final class Edges {
    static final int BEYOND = -1000000001;
    static final int FULL = -1000000002;
    static final int KIND = -1000000003;
    static final int NONE = -1000000004;
    static final int STATE = -1000000005;
    static final int MISSING = -1000000006;
    static final int SIZE = -1000000007;
    static final int MIN = Integer.MIN_VALUE;
    static final int MAX = Integer.MAX_VALUE;
    /** The section 'Terms' stands ahead of the promises. */
    static final int TERMS = 0;

    private static final String DOCUMENT = "../shared/DOC.md";
    private static final int READ_OUTS = 16;

    interface History {
        void on(ComeIfShe x);
    }

    interface Act {
        long on(ComeIfShe x);
    }

    interface ActOf {
        long on(ComeIfShe x, int v);
    }

    private final Map<Integer, String> sections = new TreeMap<>();
    private final Map<Integer, boolean[]> named = new TreeMap<>();
    private String sentence = "";
    private int checks = 0;
    private int wrong = 0;

    /** For the sections from one to another; 0 is 'Terms', 1 to 43 are the promises. */
    Edges(int first, int last) {
        String text = read();
        for (int section = first; section <= last; section++) {
            String words = section == TERMS ? termsOf(text) : promiseOf(text, section);
            sections.put(section, words);
            named.put(section, new boolean[words.length()]);
        }
    }

    private static String read() {
        try {
            return Files.readString(Path.of(DOCUMENT));
        } catch (IOException e) {
            throw new UncheckedIOException(e);
        }
    }

    private static String termsOf(String text) {
        return text.substring(text.indexOf("## Terms") + 8, text.indexOf("## Promise 1:")).replace("```text", "");
    }

    /** Without the heading and the call's signature. */
    private static String promiseOf(String text, int number) {
        Matcher found = Pattern.compile("## Promise " + number + ":[^\n]*\n\n`[^`]*`: ([^\n]*)").matcher(text);
        return found.find() ? found.group(1) : "";
    }

    // ---- the document's words

    /** The checks that follow are for these words. */
    void says(int section, String words) {
        sentence = (section == TERMS ? "Terms" : "Promise " + section) + ", '" + words + "': ";
        int at = sections.getOrDefault(section, "").indexOf(words);
        if (at < 0) {
            miss("the document has no such words");
            return;
        }
        for (int i = 0; i < words.length(); i++) {
            named.get(section)[at + i] = true;
        }
    }

    void end() {
        for (int section : sections.keySet()) {
            String rest = unnamed(section);
            sentence = "";
            if (!rest.isEmpty()) {
                miss("no test is for these words of section " + section + ": " + rest);
            }
        }
        System.out.println(checks + " checks, " + wrong + " wrong");
        if (wrong != 0) {
            System.exit(1);
        }
    }

    private String unnamed(int section) {
        StringBuilder rest = new StringBuilder();
        String words = sections.get(section);
        for (int i = 0; i < words.length(); i++) {
            boolean sign = Character.isLetterOrDigit(words.charAt(i));
            rest.append(sign && !named.get(section)[i] ? words.charAt(i) : ' ');
        }
        return rest.toString().trim().replaceAll(" +", " ");
    }

    // ---- checks

    void due(String what, long got, long want) {
        checks++;
        if (got != want) {
            miss(what + " answered " + got + ", due is " + want);
        }
    }

    private void miss(String what) {
        wrong++;
        System.out.println(sentence + what);
    }

    /** It answers the finding, counts it, and changes nothing else. */
    void refused(String what, History history, long finding, Act act) {
        int which = BEYOND - (int) finding;
        for (int status = -1; status < 7; status++) {
            ComeIfShe twin = after(history);
            ComeIfShe x = after(history);
            due(what, act.on(x), finding);
            int more = status == -1 || status == which ? 1 : 0;
            due(what + ", then status(" + status + ")", x.status(status), twin.status(status) + more);
        }
        alike(what, history, x -> {
            history.on(x);
            act.on(x);
        });
    }

    /** It answers something that is no BEYOND, and no finding is counted as one. */
    void accepted(String what, History history, Act act) {
        ComeIfShe x = after(history);
        int beyond = x.status(0);
        checks++;
        if (act.on(x) == BEYOND || x.status(0) != beyond) {
            miss(what + " is BEYOND");
        }
    }

    /** Just the numbers from one to another are taken; all others are BEYOND. */
    void within(String what, History history, int least, int most, ActOf act) {
        for (int v = least; v <= most; v++) {
            int inside = v;
            accepted(what + " " + v, history, x -> act.on(x, inside));
        }
        for (int v : new int[] {least - 1, most + 1, MIN, MAX}) {
            refused(what + " " + v, history, BEYOND, x -> act.on(x, v));
        }
    }

    /** An act's guest: none, five, and all eight that there can be. */
    void guests(ActOf act) {
        for (int v : new int[] {-1, 0, 1, MIN, MAX}) {
            refused("of no guests, guest " + v, Edges::empty, BEYOND, x -> act.on(x, v));
        }
        within("of five, guest", Edges::rich, 0, 4, act);
        within("of eight, guest", Edges::crowd, 0, 7, act);
    }

    /** An act's set of guests: of none, of five, of all eight. */
    void sets(ActOf act) {
        within("of no guests, set", Edges::empty, 0, 0, act);
        within("of five, set", Edges::rich, 0, 31, act);
        within("of eight, set", Edges::crowd, 0, 255, act);
    }

    /** An act's sheet: 0 to 3, and which of them are missing. */
    void sheets(ActOf act) {
        within("sheet", Edges::rich, 0, 3, act);
        within("sheet", Edges::empty, 0, 3, act);
        for (int s = 0; s < 4; s++) {
            int missing = s;
            refused("missing sheet " + s, Edges::empty, MISSING, x -> act.on(x, missing));
        }
        refused("missing sheet 3", Edges::rich, MISSING, x -> act.on(x, 3));
    }

    /** It answers without changing anything. */
    void onlyAsks(String what, Act act) {
        for (History history : new History[] {Edges::empty, Edges::rich, Edges::crowd}) {
            alike(what, history, x -> {
                history.on(x);
                act.on(x);
            });
        }
    }

    /** Nothing that can be asked tells one history from the other, but status(). */
    void alike(String what, History one, History other) {
        for (int part = 0; part < READ_OUTS; part++) {
            String had = readOut(part, after(one));
            String has = readOut(part, after(other));
            checks++;
            if (!had.equals(has)) {
                miss(what + ": " + had + " and " + has + " differ");
            }
        }
    }

    // ---- histories

    static ComeIfShe after(History history) {
        ComeIfShe x = new ComeIfShe();
        history.on(x);
        return x;
    }

    static void empty(ComeIfShe x) {
    }

    /** Something of all that there is: five guests, an image that differs, a tape, sheets. */
    static void rich(ComeIfShe x) {
        x.guest(0, 1);
        x.guest(3, 99);
        tell(x, 0, "b|n=1");
        x.list(2);
        x.image();
        x.guest(1, 0);
        x.guest(5, 20);
        x.guest(4, 7);
        tell(x, 1, "!a");
        tell(x, 2, "a&b");
        tell(x, 3, "n>1");
        x.cost(0, 12);
        x.turn(1, 2);
        x.list(21);
        fed(x, "a&(c|n<2)");
        x.sheet(0, 8, 3);
        x.write(0, 0, 5);
        x.write(0, 1, -1);
        x.write(0, 2, 21);
        x.sheet(1, 16, 2);
        x.write(1, 0, 300);
        x.sheet(2, 64, 0);
        x.call(9);
        x.as(0, 1);
    }

    /** All that there is room for: eight guests, 60 bytes of a term, 40 numbers. */
    static void crowd(ComeIfShe x) {
        for (int g = 0; g < 8; g++) {
            x.guest(g % 6, 10 * g);
        }
        tell(x, 2, "!h&(a|n>4)");
        tell(x, 6, "n<4|b");
        x.list(129);
        fed(x, sixty());
        for (int s = 0; s < 4; s++) {
            x.sheet(s, 64, 40);
        }
        x.write(0, 39, Long.MIN_VALUE);
        x.write(3, 0, 77);
    }

    /** A term of just 60 bytes that holds as "!b" does. */
    static String sixty() {
        return "!b" + "&1".repeat(29);
    }

    static int fed(ComeIfShe x, String text) {
        int has = x.count(1);
        for (int i = 0; i < text.length(); i += 4) {
            int n = Math.min(4, text.length() - i);
            int packed = 0;
            for (int j = 0; j < n; j++) {
                packed = packed << 8 | text.charAt(i + j);
            }
            has = x.feed(packed, n);
        }
        return has;
    }

    static int tell(ComeIfShe x, int guest, String text) {
        fed(x, text);
        return x.term(guest);
    }

    /** Guests of kind 0 and cost 10; null: no term is told. */
    static void invite(ComeIfShe x, String... terms) {
        for (int g = 0; g < terms.length; g++) {
            x.guest(0, 10);
            if (terms[g] != null && tell(x, g, terms[g]) != 1) {
                throw new IllegalArgumentException(terms[g]);
            }
        }
    }

    static ComeIfShe party(String... terms) {
        return after(x -> invite(x, terms));
    }

    /** The same term for eight guests, each with its own name in place of "*". */
    static ComeIfShe eight(String term) {
        String[] terms = new String[8];
        for (int g = 0; g < 8; g++) {
            terms[g] = term.replace('*', (char) ('a' + g));
        }
        return party(terms);
    }

    /** Eight who count in binary by rounds, from 0 over 255 to 0 again. */
    static String[] counting() {
        String[] terms = {"!a", "", "", "", "", "", "", ""};
        String lower = "a";
        for (int g = 1; g < 8; g++) {
            char own = (char) ('a' + g);
            terms[g] = own + "&!(" + lower + ")|!" + own + "&" + lower;
            lower = lower + "&" + own;
        }
        return terms;
    }

    /** The same, but those from one on stay at 255. */
    static String[] countingTillFull(int first) {
        String[] terms = counting();
        for (int g = first; g < 8; g++) {
            terms[g] = terms[g] + "|n=7&" + (char) ('a' + g);
        }
        return terms;
    }

    /**
     * Eight who go through all 256 lists by calls, one way alone, in the order of a Gray code: by an
     * even number guest 0 changes its mind, by an odd one who stands above the lowest one coming.
     */
    static String[] grayCode() {
        String[] terms = {"n=0|n=2|n=4|n=6", "", "", "", "", "", "", "g&n=1|h&!(g&n=1)"};
        String below = "";
        for (int g = 1; g < 7; g++) {
            String lowest = (char) ('a' + g - 1) + below;
            terms[g] = lowest + "&(n=1|n=3|n=5|n=7)|" + (char) ('a' + g) + "&!(" + lowest + ")";
            below = "&!" + (char) ('a' + g - 1) + below;
        }
        return terms;
    }

    // ---- read-outs: each on an object of its own, as they change it, within its 512 calls

    private static String readOut(int part, ComeIfShe x) {
        switch (part) {
            case 0:
                return guestsOf(x);
            case 1: case 2:
                return comersOf(x, part - 1);
            case 3: case 4:
                return termsOf(x, part - 3);
            case 5: case 6:
                return tapeOf(x, part - 5);
            case 7:
                return numbersOf(x);
            case 8: case 9: case 10: case 11:
                return bitsOf(x, part - 8);
            case 12:
                return "undo " + x.undo() + guestsOf(x);
            case 13: case 14:
                return "undo " + x.undo() + termsOf(x, part - 13);
            default:
                return "tear " + x.tear() + " " + x.tear();
        }
    }

    private static String guestsOf(ComeIfShe x) {
        StringBuilder all = new StringBuilder("guests");
        for (int what = 0; what < 4; what++) {
            all.append(' ').append(x.count(what));
        }
        all.append(" list ").append(x.now(0));
        for (int g = 0; g < x.count(0); g++) {
            for (int what = 0; what < 6; what++) {
                all.append(what == 0 ? ' ' : ',').append(x.of(g, what));
            }
        }
        return all.toString();
    }

    /** Who would come by one half of the lists that there can be. */
    private static String comersOf(ComeIfShe x, int half) {
        StringBuilder all = new StringBuilder("comers");
        int end = Math.min(1 << x.count(0), 128 * half + 128);
        for (int list = 128 * half; list < end; list++) {
            x.list(list);
            all.append(' ').append(x.now(2));
        }
        return all.toString();
    }

    /** As plain guests they come just as their terms say. */
    private static String termsOf(ComeIfShe x, int half) {
        for (int g = 0; g < x.count(0); g++) {
            x.turn(g, 0);
        }
        return "terms: " + comersOf(x, half);
    }

    private static String tapeOf(ComeIfShe x, int half) {
        if (x.count(0) == 0) {
            x.guest(0, 10);
        }
        return "tape " + x.count(1) + " " + x.term(0) + termsOf(x, half);
    }

    private static String numbersOf(ComeIfShe x) {
        StringBuilder all = new StringBuilder("numbers");
        for (int s = 0; s < 4; s++) {
            all.append(" of ").append(s);
            for (int i = 0; i < 41; i++) {
                all.append(' ').append(x.write(s, i, 0));
            }
        }
        return all.toString();
    }

    /** Only a sheet of as many bits can be copied to. */
    private static String bitsOf(ComeIfShe x, int s) {
        StringBuilder all = new StringBuilder("bits of ").append(s);
        int other = (s + 1) % 4;
        for (int bits = 8; bits <= 64; bits *= 2) {
            x.sheet(other, bits, 0);
            all.append(' ').append(x.copy(s, 0, other, 0, 0));
        }
        return all.toString();
    }
}
