import java.util.function.LongSupplier;

/** Each promise by cases worked by hand: ordinary inputs, edges, wrong inputs in their order. */
public final class PromiseTest {
    private static final int BEYOND = -1000000001;
    private static final int FULL = -1000000002;
    private static final int KIND = -1000000003;
    private static final int NONE = -1000000004;
    private static final int MISSING = -1000000006;
    private static final int SIZE = -1000000007;
    private static final int MIN = Integer.MIN_VALUE;
    private static final int MAX = Integer.MAX_VALUE;

    private static int wrong = 0;
    private static int checks = 0;

    public static void main(String[] args) {
        newObject();
        guest();
        of();
        wouldByKind();
        costAndTurn();
        as();
        terms();
        faults();
        openSigns();
        feedAndWipe();
        listAndNow();
        callAndCalls();
        roundsAndOn();
        whenAndRing();
        fewestAndFirst();
        settledIthSure();
        basinAndOdds();
        last();
        buysAndPrice();
        spoils();
        invites();
        against();
        minds();
        kind();
        sheetAndWrite();
        copy();
        lays();
        book();
        read();
        images();
        count();
        status();
        System.out.println(checks + " checks, " + wrong + " wrong");
        if (wrong != 0) {
            System.exit(1);
        }
    }

    // ---- means

    private static void due(String what, long got, long want) {
        checks++;
        if (got != want) {
            wrong++;
            System.out.println(what + " answered " + got + ", due is " + want);
        }
    }

    /** A finding is told, counted once, and changes nothing else that can be seen. */
    private static void finds(String what, ComeIfShe x, long want, LongSupplier act) {
        String before = seen(x);
        int all = x.status(-1);
        int which = BEYOND - (int) want;
        int of = x.status(which);
        due(what, act.getAsLong(), want);
        due(what + ": status(-1)", x.status(-1), all + 1);
        due(what + ": status(" + which + ")", x.status(which), of + 1);
        String after = seen(x);
        checks++;
        if (!before.equals(after)) {
            wrong++;
            System.out.println(what + " changed " + before + " to " + after);
        }
    }

    private static String seen(ComeIfShe x) {
        StringBuilder all = new StringBuilder();
        for (int what = 0; what < 4; what++) {
            all.append(x.count(what)).append(' ');
        }
        all.append(x.now(0));
        for (int g = 0; g < x.count(0); g++) {
            all.append(' ').append(x.of(g, 0)).append(',').append(x.of(g, 1));
            all.append(',').append(x.of(g, 4));
        }
        return all.toString();
    }

    private static int tell(ComeIfShe x, int guest, String text) {
        for (int i = 0; i < text.length(); i++) {
            x.feed(text.charAt(i), 1);
        }
        return x.term(guest);
    }

    /** Guests of kind 0 and cost 10; null: no term is told. */
    private static ComeIfShe party(String... terms) {
        ComeIfShe x = new ComeIfShe();
        for (int g = 0; g < terms.length; g++) {
            x.guest(0, 10);
            if (terms[g] != null) {
                due("term " + terms[g], tell(x, g, terms[g]), 1);
            }
        }
        return x;
    }

    // ---- 1: a new object

    private static void newObject() {
        ComeIfShe x = new ComeIfShe();
        due("new: guests", x.count(0), 0);
        due("new: tape", x.count(1), 0);
        due("new: list", x.now(0), 0);
        due("new: told", x.count(3), 0);
        due("new: status", x.status(-1), 0);
        due("new: tear", x.tear(), 0);
        finds("new: undo", x, NONE, () -> x.undo());
        for (int s = 0; s < 4; s++) {
            int sheet = s;
            finds("new: sheet " + s, x, MISSING, () -> x.write(sheet, 0, 0));
        }
    }

    // ---- 2 to 6: guests

    private static void guest() {
        ComeIfShe x = new ComeIfShe();
        finds("guest(-1, 0)", x, BEYOND, () -> x.guest(-1, 0));
        finds("guest(6, 0)", x, BEYOND, () -> x.guest(6, 0));
        finds("guest(0, -1)", x, BEYOND, () -> x.guest(0, -1));
        finds("guest(0, 100)", x, BEYOND, () -> x.guest(0, 100));
        finds("guest(MIN, MIN)", x, BEYOND, () -> x.guest(MIN, MIN));
        for (int g = 0; g < 8; g++) {
            due("guest " + g, x.guest(g % 6, g == 0 ? 0 : 99), g);
            due("its kind", x.of(g, 0), g % 6);
            due("its cost", x.of(g, 1), g == 0 ? 0 : 99);
            due("not on the list", x.of(g, 2), 0);
            due("its term holds", x.of(g, 4), 1);
        }
        finds("ninth guest", x, FULL, () -> x.guest(0, 0));
        finds("ninth, cost beyond", x, BEYOND, () -> x.guest(0, 100));
    }

    private static void of() {
        ComeIfShe x = party("b", "n=1", null);
        x.turn(2, 3);
        x.list(5);
        due("of(0, 2)", x.of(0, 2), 1);
        due("of(1, 2)", x.of(1, 2), 0);
        due("of(0, 3)", x.of(0, 3), 0);
        due("of(0, 4)", x.of(0, 4), 0);
        due("of(1, 3)", x.of(1, 3), 0);
        due("of(2, 3)", x.of(2, 3), 0);
        due("of(2, 4)", x.of(2, 4), 1);
        due("of(0, 5)", x.of(0, 5), 1);
        due("of(1, 5)", x.of(1, 5), 2);
        due("of(2, 0)", x.of(2, 0), 3);
        due("of(2, 1)", x.of(2, 1), 10);
        finds("of(-1, 0)", x, BEYOND, () -> x.of(-1, 0));
        finds("of(3, 0)", x, BEYOND, () -> x.of(3, 0));
        finds("of(0, -1)", x, BEYOND, () -> x.of(0, -1));
        finds("of(0, 6)", x, BEYOND, () -> x.of(0, 6));
        finds("of(MAX, MAX)", x, BEYOND, () -> x.of(MAX, MAX));
    }

    /** Rows: kind, term, and whether one would come with 0 to 7 others on the list. */
    private static void wouldByKind() {
        String[] rows = {
            "0 1 11111111", "0 0 00000000", "1 1 11111111", "1 0 00001111",
            "2 1 11111000", "2 0 00000000", "3 1 00000000", "3 0 00000000",
            "4 1 11111111", "4 0 10001111", "5 1 00000111", "5 0 11111111"};
        for (String row : rows) {
            ComeIfShe x = party(null, null, null, null, null, null, null, null);
            x.turn(0, row.charAt(0) - '0');
            tell(x, 0, row.substring(2, 3));
            for (int others = 0; others < 8; others++) {
                int want = row.charAt(4 + others) - '0';
                x.list((1 << others) - 1 << 1);
                due(row + " with " + others, x.of(0, 3), want);
                x.list((1 << others) - 1 << 1 | 1);
                due(row + " with itself and " + others, x.of(0, 3), want);
            }
        }
    }

    private static void costAndTurn() {
        ComeIfShe x = party(null, "0");
        due("cost(1, 0)", x.cost(1, 0), 10);
        due("cost(1, 99)", x.cost(1, 99), 0);
        due("cost of 0 stays", x.of(0, 1), 10);
        due("cost(1, 5)", x.cost(1, 5), 99);
        finds("cost(0, -1)", x, BEYOND, () -> x.cost(0, -1));
        finds("cost(0, 100)", x, BEYOND, () -> x.cost(0, 100));
        finds("cost(2, 1)", x, BEYOND, () -> x.cost(2, 1));
        finds("cost(-1, 1)", x, BEYOND, () -> x.cost(-1, 1));
        due("turn(1, 5)", x.turn(1, 5), 0);
        due("now(2) with a sulky one", x.now(2), 3);
        due("turn(1, 3)", x.turn(1, 3), 5);
        due("now(2) with a never", x.now(2), 1);
        due("turn(1, 3) again", x.turn(1, 3), 3);
        due("cost stays", x.of(1, 1), 5);
        finds("turn(2, 0)", x, BEYOND, () -> x.turn(2, 0));
        finds("turn(-1, 0)", x, BEYOND, () -> x.turn(-1, 0));
        finds("turn(0, 6)", x, BEYOND, () -> x.turn(0, 6));
        finds("turn(0, -1)", x, BEYOND, () -> x.turn(0, -1));
    }

    private static void as() {
        String[] under = {"100000", "110000", "101000", "100100", "110010", "101001"};
        for (int own = 0; own < 6; own++) {
            ComeIfShe x = new ComeIfShe();
            x.guest(own, 40 + own);
            for (int kind = 0; kind < 6; kind++) {
                int asked = kind;
                if (under[own].charAt(kind) == '1') {
                    due(own + " as " + kind, x.as(0, kind), 40 + own);
                } else {
                    finds(own + " as " + kind, x, KIND, () -> x.as(0, asked));
                }
            }
            finds("as(1, 0)", x, BEYOND, () -> x.as(1, 0));
            finds("as(-1, 0)", x, BEYOND, () -> x.as(-1, 0));
            finds("as(0, 6)", x, BEYOND, () -> x.as(0, 6));
            finds("as(0, -1)", x, BEYOND, () -> x.as(0, -1));
        }
    }

    // ---- 7 to 9: terms and the tape

    private static void terms() {
        holds("1", 0, 1);
        holds("0", 255, 0);
        for (int g = 0; g < 8; g++) {
            String name = String.valueOf((char) ('a' + g));
            holds(name, 1 << g, 1);
            holds(name, 255 - (1 << g), 0);
            holds("!" + name, 1 << g, 0);
        }
        holds("a|b&0", 1, 1);
        holds("(a|b)&0", 1, 0);
        holds("0&a|1", 0, 1);
        holds("!a|1", 1, 1);
        holds("!a&0", 0, 0);
        holds("!(a&0)", 1, 1);
        holds("!!a", 1, 1);
        holds("((a))|0", 1, 1);
        holds("a|b|h", 128, 1);
        holds("a&b&h", 131, 1);
        holds("a&b&h", 130, 0);
        // Guest 3 tells them: it isn't among the others.
        holds("n=0", 8, 1);
        holds("n=2", 8 + 3, 1);
        holds("n<2", 8 + 3, 0);
        holds("n<3", 3, 1);
        holds("n>1", 3, 1);
        holds("n>2", 8 + 3, 0);
        holds("n=7", 255, 1);
        holds("n<7", 255, 0);
        holds("n>6", 247, 1);
        holds("n>7", 255, 0);
        holds("n<8", 255, 1);
        holds("n<9", 255, 1);
        holds("n>9", 255, 0);
        holds("n<0", 0, 0);
        ComeIfShe x = party("h", "0");
        due("a guest that there isn't", x.now(2), 0);
        due("told", x.count(3), 3);
        due("a new term in place of the old", tell(x, 0, "!h"), 1);
        due("it holds", x.now(2), 1);
        due("the tape is empty then", x.count(1), 0);
        x.feed('0', 1);
        finds("term(2)", x, BEYOND, () -> x.term(2));
        finds("term(-1)", x, BEYOND, () -> x.term(-1));
        due("the tape stays", x.count(1), 1);
        due("a guest who comes later", x.guest(0, 1), 2);
        due("who's told", x.count(3), 3);
        due("its term always holds", x.of(2, 4), 1);
    }

    private static void holds(String text, int list, int want) {
        ComeIfShe x = party(null, null, null, null, null, null, null, null);
        due("term " + text, tell(x, 3, text), 1);
        x.list(list);
        due(text + " by " + list, x.of(3, 4), want);
        due(text + " and no other's", x.of(4, 4), 1);
    }

    private static void faults() {
        fault("", 0);
        fault("i", 0);
        fault("A", 0);
        fault("2", 0);
        fault(" a", 0);
        fault("&", 0);
        fault(")", 0);
        fault("a ", 1);
        fault("ab", 1);
        fault("a)", 1);
        fault("a!", 1);
        fault("a(", 1);
        fault("01", 1);
        fault("a|", 2);
        fault("a||b", 2);
        fault("a&|b", 2);
        fault("!", 1);
        fault("!&", 1);
        fault("(", 1);
        fault("()", 1);
        fault("(a", 2);
        fault("(a&", 3);
        fault("(a))", 3);
        fault("((a)", 4);
        fault("n", 1);
        fault("n5", 1);
        fault("n<", 2);
        fault("n<a", 2);
        fault("n<=5", 2);
        fault("n>10", 3);
        fault("n=", 2);
        fault("a|n=4|)", 6);
        fault(String.valueOf((char) 0), 0);
        fault("a" + (char) 255, 1);
        ComeIfShe x = party("0");
        for (int i = 0; i < 30; i++) {
            x.feed('a' << 8 | '|', 2);
        }
        due("sixty bytes, too early an end", x.term(0), -61);
        StringBuilder full = new StringBuilder("!0");
        while (full.length() < 60) {
            full.append("&1");
        }
        due("a term of sixty bytes", tell(x, 0, full.toString()), 1);
        due("it holds", x.of(0, 4), 1);
    }

    private static void fault(String text, int place) {
        ComeIfShe x = party("0");
        due("fault of " + text, tell(x, 0, text), -1 - place);
        due("the tape is empty", x.count(1), 0);
        due("the term stays", x.of(0, 4), 0);
        due("no finding", x.status(-1), 0);
        ComeIfShe y = party((String) null);
        tell(y, 0, text);
        due("nothing told", y.count(3), 0);
    }

    private static void openSigns() {
        ComeIfShe x = party((String) null);
        due("six of !", tell(x, 0, "!!!!!!a"), 1);
        due("six of (", tell(x, 0, "((((((a))))))"), 1);
        due("three of each", tell(x, 0, "!(!(!(a)))"), 1);
        due("closed ones count no more", tell(x, 0, "!!!!!!a&!!!!!!b|((((((c))))))&!(!(!(d)))"), 1);
        due("closed inside", tell(x, 0, "(((((!a&!b|(c))))))"), 1);
        due("!( closed together", tell(x, 0, "((((!(a)|!(b)))))"), 1);
        due("seven of !", tell(x, 0, "!!!!!!!a"), -1 - 6);
        due("seven of (", tell(x, 0, "(((((((a)))))))"), -1 - 6);
        due("! behind six", tell(x, 0, "((((((!a))))))"), -1 - 6);
        due("( behind six", tell(x, 0, "!!!!!!(a)"), -1 - 6);
        due("later on", tell(x, 0, "((((((a|(b)))))))"), -1 - 8);
        due("! stays open over its (", tell(x, 0, "!(!(!(a&!b)))"), -1 - 8);
    }

    private static void feedAndWipe() {
        ComeIfShe x = party((String) null);
        due("feed 4", x.feed('n' << 24 | '=' << 16 | '0' << 8 | '|', 4), 4);
        due("feed 3", x.feed(0x7F000000 | '!' << 16 | '0' << 8 | '&', 3), 7);
        due("feed 1", x.feed(0x7F7F7F00 | '1', 1), 8);
        due("highest first", x.term(0), 1);
        due("feed of a number below 0", x.feed(-1, 4), 4);
        due("its first byte", x.term(0), -1);
        finds("feed(0, 0)", x, BEYOND, () -> x.feed('a', 0));
        finds("feed(0, 5)", x, BEYOND, () -> x.feed('a', 5));
        finds("feed(0, -1)", x, BEYOND, () -> x.feed('a', -1));
        for (int i = 1; i <= 14; i++) {
            due("feed", x.feed(0, 4), 4 * i);
        }
        due("feed to 59", x.feed(0, 3), 59);
        finds("feed over 60", x, FULL, () -> x.feed(0, 2));
        finds("BEYOND before FULL", x, BEYOND, () -> x.feed(0, 5));
        due("feed to 60", x.feed(0, 1), 60);
        finds("feed to 61", x, FULL, () -> x.feed(0, 1));
        due("wipe", x.wipe(), 60);
        due("wipe again", x.wipe(), 0);
        due("feed anew", x.feed('1', 1), 1);
        due("only what is new", x.term(0), 1);
    }

    // ---- 10 to 15: the list

    private static void listAndNow() {
        ComeIfShe x = party("b", "1", "a");
        x.cost(0, 3);
        x.cost(2, 99);
        due("list(5)", x.list(5), 0);
        due("now(0)", x.now(0), 5);
        due("now(1)", x.now(1), 2);
        due("now(2)", x.now(2), 6);
        due("now(3)", x.now(3), 0);
        due("now(4)", x.now(4), 102);
        due("list(7)", x.list(7), 5);
        due("now(3) settled", x.now(3), 1);
        due("list(0)", x.list(0), 7);
        due("now(4) of nobody", x.now(4), 0);
        finds("list(8)", x, BEYOND, () -> x.list(8));
        finds("list(-1)", x, BEYOND, () -> x.list(-1));
        finds("list(MIN)", x, BEYOND, () -> x.list(MIN));
        finds("now(5)", x, BEYOND, () -> x.now(5));
        finds("now(-1)", x, BEYOND, () -> x.now(-1));
    }

    private static void callAndCalls() {
        ComeIfShe x = party("b", "1", "!a");
        due("call(0)", x.call(0), 0);
        due("call(1)", x.call(1), 1);
        due("call(1) again", x.call(1), 0);
        due("call(2)", x.call(2), 1);
        due("call(0) now", x.call(0), 1);
        due("the list", x.now(0), 7);
        due("call(2) off", x.call(2), 1);
        due("the list", x.now(0), 3);
        finds("call(3)", x, BEYOND, () -> x.call(3));
        finds("call(-1)", x, BEYOND, () -> x.call(-1));
        x.list(0);
        // 0 stays away, 1 comes, 2 comes; then 0 comes, 2 goes; then nobody changes.
        due("calls(1)", x.calls(1), 2);
        due("the list", x.now(0), 6);
        x.list(0);
        due("calls(20)", x.calls(20), 4);
        due("the list", x.now(0), 3);
        finds("calls(0)", x, BEYOND, () -> x.calls(0));
        finds("calls(21)", x, BEYOND, () -> x.calls(21));
        ComeIfShe y = party("!a");
        due("calls(19) of one who never settles", y.calls(19), 19);
        due("on the list", y.now(0), 1);
        due("calls of nobody", new ComeIfShe().calls(3), 0);
    }

    private static void roundsAndOn() {
        ComeIfShe x = party("!b", "a");
        int[] ring = {0, 1, 3, 2};
        for (int n = 0; n <= 64; n++) {
            due("on(" + n + ")", x.on(n), ring[n % 4]);
        }
        due("on changes nothing", x.now(0), 0);
        due("rounds(1)", x.rounds(1), 1);
        due("rounds(2)", x.rounds(2), 2);
        due("the list", x.now(0), 2);
        due("rounds(64)", x.rounds(64), 2);
        due("rounds(63)", x.rounds(63), 3);
        finds("rounds(0)", x, BEYOND, () -> x.rounds(0));
        finds("rounds(65)", x, BEYOND, () -> x.rounds(65));
        finds("on(-1)", x, BEYOND, () -> x.on(-1));
        finds("on(65)", x, BEYOND, () -> x.on(65));
    }

    // ---- 16 to 24: what settles

    private static void whenAndRing() {
        ComeIfShe chain = party("1", "a", "b", "c", "d", "e", "f", "g");
        due("when of a chain", chain.when(), 8);
        due("ring(0)", chain.ring(0), 8);
        due("ring(1)", chain.ring(1), 1);
        chain.list(255);
        due("when it is settled", chain.when(), 0);
        due("ring(0) then", chain.ring(0), 0);
        // 1, 2, 4 comes round in threes; guest 3 comes once and for all.
        ComeIfShe x = party("c&!a&!b|!a&!b&!c", "a&!b", "b&!c", null);
        due("never settles: NONE", x.when(), NONE);
        due("ring(0) of a tail", x.ring(0), 1);
        due("ring(1) of three", x.ring(1), 3);
        finds("when()", x, NONE, () -> x.when());
        finds("ring(2)", x, BEYOND, () -> x.ring(2));
        finds("ring(-1)", x, BEYOND, () -> x.ring(-1));
        counter();
    }

    /** Eight guests who count in binary: the longest way that rounds can go. */
    private static void counter() {
        String[] terms = new String[8];
        terms[0] = "!a";
        for (int g = 1; g < 8; g++) {
            StringBuilder all = new StringBuilder("a");
            for (int lower = 1; lower < g; lower++) {
                all.append('&').append((char) ('a' + lower));
            }
            char own = (char) ('a' + g);
            terms[g] = own + "&!(" + all + ")|!" + own + "&" + all;
        }
        ComeIfShe x = party(terms);
        due("a ring of all lists", x.ring(1), 256);
        due("without a tail", x.ring(0), 0);
        due("never settled", x.when(), NONE);
        due("basin", x.basin(), 0);
        tell(x, 0, "!a|b&c&d&e&f&g&h");
        for (int g = 1; g < 8; g++) {
            tell(x, g, terms[g] + "|n=7&" + (char) ('a' + g));
        }
        due("the longest way", x.when(), 255);
        due("its tail", x.ring(0), 255);
        due("its ring", x.ring(1), 1);
        due("all come to it", x.basin(), 256);
        due("on(64)", x.on(64), 64);
        due("odds of the last", x.odds(7, 0), 1);
        due("by", x.odds(7, 1), 1);
    }

    private static void fewestAndFirst() {
        ComeIfShe x = party("!b", "!a");
        due("fewest", x.fewest(), 1);
        due("first: the least", x.first(), 0);
        x.list(1);
        due("settled already", x.fewest(), 0);
        finds("first()", x, NONE, () -> x.first());
        ComeIfShe y = party("!b", "a");
        finds("fewest() of none", y, NONE, () -> y.fewest());
        finds("first() of none", y, NONE, () -> y.first());
        // Guest 2 must be called ahead of 0, who else leaves for good.
        ComeIfShe z = party("c&a", "1", "1");
        z.list(1);
        due("two must come", z.fewest(), 2);
        due("0 leaves", z.call(0), 1);
        due("then two as well", z.fewest(), 2);
        ComeIfShe w = party("b", "c", "1");
        due("a chain backwards", w.fewest(), 3);
        due("it begins with the last", w.first(), 2);
        w.call(2);
        due("then", w.fewest(), 2);
        due("the one before", w.first(), 1);
        ComeIfShe v = party("!b", "1");
        due("0 would change its mind, too", v.of(0, 3), 1);
        due("but 1 settles it", v.fewest(), 1);
        due("so 1 is called", v.first(), 1);
        due("nobody: settled", new ComeIfShe().fewest(), 0);
    }

    private static void settledIthSure() {
        ComeIfShe x = party("!b", "!a", null);
        due("settled", x.settled(), 2);
        due("ith(0)", x.ith(0), 5);
        due("ith(1)", x.ith(1), 6);
        due("sure(0)", x.sure(0), 4);
        due("sure(1)", x.sure(1), 7);
        due("sure(2)", x.sure(2), 2);
        due("sure(3)", x.sure(3), 2);
        finds("ith(2)", x, NONE, () -> x.ith(2));
        finds("ith(MAX)", x, NONE, () -> x.ith(MAX));
        finds("ith(-1)", x, BEYOND, () -> x.ith(-1));
        finds("sure(-1)", x, BEYOND, () -> x.sure(-1));
        finds("sure(4)", x, BEYOND, () -> x.sure(4));
        tell(x, 2, "a&b");
        tell(x, 0, "b");
        tell(x, 1, "a");
        due("all or nobody", x.settled(), 2);
        due("nobody", x.ith(0), 0);
        due("all", x.ith(1), 7);
        due("sure of none", x.sure(0), 0);
        due("most", x.sure(2), 3);
        due("least", x.sure(3), 0);
        tell(x, 2, "!c");
        due("none settles", x.settled(), 0);
        finds("sure(0) of none", x, NONE, () -> x.sure(0));
        finds("BEYOND before NONE", x, BEYOND, () -> x.sure(4));
        finds("ith(0) of none", x, NONE, () -> x.ith(0));
        ComeIfShe y = party("a", "b");
        due("as each likes", y.settled(), 4);
        due("sure(1) of these", y.sure(1), 3);
    }

    private static void basinAndOdds() {
        ComeIfShe x = party("!b", "!a");
        due("basin", x.basin(), 2);
        due("odds above", x.odds(0, 0), 1);
        due("odds below", x.odds(0, 1), 4);
        ComeIfShe y = party("b", "a|c", "0");
        // 0 stays; 3, 6, 7 come to 3; by 1, 2, 4, 5 the guests 0 and 1 change places for ever.
        due("basin", y.basin(), 4);
        due("3 of 8", y.odds(0, 0), 3);
        due("3 of 8", y.odds(0, 1), 8);
        due("never", y.odds(2, 0), 0);
        due("0 by 1", y.odds(2, 1), 1);
        ComeIfShe z = party(null, "b");
        due("always", z.odds(0, 0), 1);
        due("1 by 1", z.odds(0, 1), 1);
        due("half of all", z.odds(1, 0), 1);
        due("1 by 2", z.odds(1, 1), 2);
        finds("odds(2, 0)", z, BEYOND, () -> z.odds(2, 0));
        finds("odds(-1, 0)", z, BEYOND, () -> z.odds(-1, 0));
        finds("odds(0, 2)", z, BEYOND, () -> z.odds(0, 2));
        finds("odds(0, -1)", z, BEYOND, () -> z.odds(0, -1));
    }

    // ---- 25 to 32: whom to get, who spoils it

    private static void last() {
        ComeIfShe x = party("b", "a", "a&b");
        due("nobody bought", x.last(0), 0);
        due("one bought", x.last(1), 7);
        due("who draws nobody", x.last(4), 4);
        x.turn(0, 3);
        due("bought whatever it would", x.last(1), 3 + 4);
        x.list(7);
        due("from nobody on", x.last(0), 0);
        due("the list stays", x.now(0), 7);
        finds("last(8)", x, BEYOND, () -> x.last(8));
        finds("last(-1)", x, BEYOND, () -> x.last(-1));
        due("64 rounds of three", party("n=0&!a", "a").last(0), 1);
        due("64 rounds of two", party("!a").last(0), 0);
        due("of nobody", new ComeIfShe().last(0), 0);
    }

    private static void buysAndPrice() {
        ComeIfShe x = party("b", "a", "a&b");
        x.cost(0, 5);
        x.cost(1, 7);
        x.cost(2, 1);
        due("buys(0)", x.buys(0), 0);
        due("price(0)", x.price(0), 0);
        due("buys(1)", x.buys(1), 4);
        due("price(1)", x.price(1), 1);
        due("buys(2)", x.buys(2), 1);
        due("buys(3)", x.buys(3), 1);
        due("price(3)", x.price(3), 5);
        finds("buys(4)", x, NONE, () -> x.buys(4));
        finds("price(8)", x, NONE, () -> x.price(8));
        finds("buys(9)", x, BEYOND, () -> x.buys(9));
        finds("buys(-1)", x, BEYOND, () -> x.buys(-1));
        finds("price(9)", x, BEYOND, () -> x.price(9));
        finds("price(-1)", x, BEYOND, () -> x.price(-1));
        ComeIfShe y = party("0", "0", "0", "c");
        y.cost(0, 2);
        y.cost(1, 2);
        y.cost(2, 4);
        y.cost(3, 99);
        due("as dear: fewest", y.buys(2), 4);
        due("what it costs", y.price(2), 4);
        due("as dear, as few: the least", y.buys(1), 1);
        ComeIfShe z = party("0", "0");
        z.cost(0, 0);
        z.cost(1, 0);
        due("for nothing, but no more than needed", z.buys(0), 0);
        due("for nothing", z.buys(1), 1);
    }

    private static void spoils() {
        due("the chain's first", party("1", "a", "b").spoils(), 0);
        due("the chain's first, if last", party("b", "c", "1").spoils(), 2);
        due("of several the least", party("1", "1").spoils(), 0);
        due("one whom others shun is none", party("1", "!a", "!a", "0").spoils(), 1);
        due("kept out, though on the list", party("a", "1").spoils(), 1);
        ComeIfShe x = new ComeIfShe();
        finds("spoils() of nobody", x, NONE, () -> x.spoils());
    }

    private static void invites() {
        ComeIfShe x = party("1", "a", "!b");
        due("nobody", x.invites(0, 8), 0);
        due("invites(1, 1)", x.invites(1, 1), 1);
        due("invites(1, 8)", x.invites(1, 8), 1);
        due("invites(2, 2)", x.invites(2, 2), 3);
        finds("invites(3, 3)", x, NONE, () -> x.invites(3, 3));
        finds("invites(2, 1)", x, BEYOND, () -> x.invites(2, 1));
        finds("invites(-1, 1)", x, BEYOND, () -> x.invites(-1, 1));
        finds("invites(0, 9)", x, BEYOND, () -> x.invites(0, 9));
        finds("invites(9, 9)", x, BEYOND, () -> x.invites(9, 9));
        ComeIfShe y = party("n=0&!a", "a");
        finds("one, but not settled", y, NONE, () -> y.invites(1, 1));
        due("settled for those asked alone", party("b", "1").invites(1, 1), 2);
        due("few, not least", party("0", "0", "1").invites(1, 2), 4);
        due("all of three", party("b", "c", "1").invites(3, 8), 7);
    }

    private static void against() {
        ComeIfShe x = party("!b", "!a", null, "0");
        due("against(0, 1)", x.against(0, 1), 1);
        due("against(1, 0)", x.against(1, 0), 1);
        due("against(0, 2)", x.against(0, 2), 0);
        due("against one who never comes", x.against(0, 3), 0);
        finds("against(1, 1)", x, BEYOND, () -> x.against(1, 1));
        finds("against(4, 0)", x, BEYOND, () -> x.against(4, 0));
        finds("against(0, 4)", x, BEYOND, () -> x.against(0, 4));
        finds("against(-1, 0)", x, BEYOND, () -> x.against(-1, 0));
        ComeIfShe y = party("a", "b");
        due("with both, too", y.against(0, 1), 0);
    }

    private static void minds() {
        ComeIfShe x = party("b", "1", "a|n>1");
        due("minds(0)", x.minds(0), 4);
        due("minds(1)", x.minds(1), 1);
        due("minds(2)", x.minds(2), 0);
        x.guest(0, 0);
        due("one more makes it count", x.minds(1), 5);
        tell(x, 3, "d");
        due("not itself", x.minds(3), 4);
        due("the list stays", x.now(0), 0);
        finds("minds(4)", x, BEYOND, () -> x.minds(4));
        finds("minds(-1)", x, BEYOND, () -> x.minds(-1));
        ComeIfShe y = party(null, null, null, null, null);
        y.turn(0, 1);
        tell(y, 0, "0");
        due("an eager one of five", y.minds(1), 1);
        due("minds only others", y.minds(0), 0);
    }

    private static void kind() {
        ComeIfShe x = party("b", "!a");
        due("sulky does it", x.kind(0), 5);
        due("its kind stays", x.of(0, 0), 0);
        due("of several the least", party(null, null).kind(0), 0);
        due("one who is sulky", turned(5).kind(0), 0);
        due("who's against itself", party("!a").kind(0), 5);
        due("never lets it settle", party("1", "!b&a").kind(0), 3);
        finds("kind(2)", x, BEYOND, () -> x.kind(2));
        finds("kind(-1)", x, BEYOND, () -> x.kind(-1));
    }

    private static ComeIfShe turned(int kind) {
        ComeIfShe x = party("a");
        x.turn(0, kind);
        return x;
    }

    // ---- 33 to 38: sheets

    private static void sheetAndWrite() {
        ComeIfShe x = new ComeIfShe();
        due("sheet(0, 8, 40)", x.sheet(0, 8, 40), 40);
        due("all 0", x.write(0, 39, 7), 0);
        due("what it was", x.write(0, 39, 300), 7);
        due("its lowest bits", x.write(0, 39, 200), 44);
        due("signed, as Java's bytes", x.write(0, 39, 0x1FF), -56);
        due("all of them", x.write(0, 39, 0), -1);
        due("sheet(1, 16, 1)", x.sheet(1, 16, 1), 1);
        due("16 bits", x.write(1, 0, 65536 + 40000), 0);
        due("signed, as Java's shorts", x.write(1, 0, -65535), 40000 - 65536);
        due("lowest bits", x.write(1, 0, 0), 1);
        due("sheet(2, 64, 2)", x.sheet(2, 64, 2), 2);
        due("64 bits", x.write(2, 1, Long.MIN_VALUE), 0);
        due("all 64", x.write(2, 1, Long.MAX_VALUE), Long.MIN_VALUE);
        due("all 64", x.write(2, 1, -1), Long.MAX_VALUE);
        due("the other number stays", x.write(2, 0, 5), 0);
        due("laid anew: all 0", x.sheet(2, 64, 2), 2);
        due("all 0", x.write(2, 1, 1), 0);
        due("no numbers", x.sheet(3, 16, 0), 0);
        finds("write to none", x, BEYOND, () -> x.write(3, 0, 0));
        due("missing", x.sheet(3, 0, 40), 0);
        finds("write to a missing one", x, MISSING, () -> x.write(3, -1, 0));
        finds("write(4, 0, 0)", x, BEYOND, () -> x.write(4, 0, 0));
        finds("write(-1, 0, 0)", x, BEYOND, () -> x.write(-1, 0, 0));
        finds("write(2, 2, 0)", x, BEYOND, () -> x.write(2, 2, 0));
        finds("write(2, -1, 0)", x, BEYOND, () -> x.write(2, -1, 0));
        finds("sheet(4, 8, 1)", x, BEYOND, () -> x.sheet(4, 8, 1));
        finds("sheet(-1, 8, 1)", x, BEYOND, () -> x.sheet(-1, 8, 1));
        finds("sheet(0, 32, 1)", x, BEYOND, () -> x.sheet(0, 32, 1));
        finds("sheet(0, -8, -1)", x, BEYOND, () -> x.sheet(0, -8, -1));
        finds("sheet(0, 8, -1)", x, SIZE, () -> x.sheet(0, 8, -1));
        finds("sheet(0, 0, MIN)", x, SIZE, () -> x.sheet(0, 0, MIN));
        finds("sheet(0, 64, 41)", x, BEYOND, () -> x.sheet(0, 64, 41));
        finds("sheet(0, 0, 41)", x, BEYOND, () -> x.sheet(0, 0, 41));
        due("the sheet stays", x.write(0, 38, 1), 0);
        due("the sheet stays", x.write(0, 38, 2), 1);
    }

    private static void copy() {
        ComeIfShe x = new ComeIfShe();
        x.sheet(0, 16, 5);
        x.sheet(1, 16, 3);
        x.sheet(2, 8, 5);
        for (int i = 0; i < 5; i++) {
            x.write(0, i, 10 + i);
        }
        due("copy", x.copy(0, 3, 1, 1, 2), 2);
        numbers("copied", x, 1, 0, 13, 14);
        due("onto itself, forwards", x.copy(0, 0, 0, 1, 4), 4);
        numbers("as they all were", x, 0, 10, 10, 11, 12, 13);
        for (int i = 0; i < 5; i++) {
            x.write(0, i, 20 + i);
        }
        due("onto itself, backwards", x.copy(0, 1, 0, 0, 4), 4);
        numbers("as they all were", x, 0, 21, 22, 23, 24, 24);
        due("none", x.copy(0, 5, 1, 3, 0), 0);
        finds("no such sheet", x, BEYOND, () -> x.copy(4, 0, 3, 0, 0));
        finds("no such other one", x, BEYOND, () -> x.copy(3, 0, -1, 0, 0));
        finds("missing", x, MISSING, () -> x.copy(3, -1, 2, 0, 0));
        finds("the other one missing", x, MISSING, () -> x.copy(2, -1, 3, 0, 0));
        finds("of other bits", x, KIND, () -> x.copy(0, -1, 2, 0, 0));
        finds("from below 0", x, BEYOND, () -> x.copy(0, -1, 1, 0, 1));
        finds("to below 0", x, BEYOND, () -> x.copy(0, 0, 1, -1, 1));
        finds("n below 0", x, BEYOND, () -> x.copy(0, 0, 1, 0, -1));
        finds("too many there", x, BEYOND, () -> x.copy(0, 0, 1, 0, 4));
        finds("too many here", x, BEYOND, () -> x.copy(1, 1, 0, 0, 3));
        finds("from behind the end", x, BEYOND, () -> x.copy(0, 6, 1, 0, 0));
        finds("a sum that wraps", x, BEYOND, () -> x.copy(0, MAX, 1, 0, MAX));
        finds("n MIN", x, BEYOND, () -> x.copy(0, MIN, 1, MIN, MIN));
        numbers("nothing changed", x, 1, 0, 0, 0);
    }

    /** Reads by writing 0. */
    private static void numbers(String what, ComeIfShe x, int s, long... want) {
        for (int i = 0; i < want.length; i++) {
            long was = x.write(s, i, 0);
            due(what + " " + i, was, want[i]);
            if (s == 0) {
                x.write(s, i, was);
            }
        }
    }

    private static void lays() {
        ComeIfShe x = party("0", "0", "0");
        x.list(6);
        x.sheet(0, 8, 5);
        x.write(0, 0, 1);
        x.write(0, 1, 256);
        x.write(0, 2, -3);
        x.write(0, 4, 9);
        due("lays", x.lays(0), 5);
        due("the list then", x.now(0), 5);
        x.sheet(1, 64, 1);
        x.write(1, 0, 1L << 40);
        due("who has no number: not", x.lays(1), 1);
        x.sheet(1, 64, 0);
        due("no numbers", x.lays(1), 0);
        finds("missing", x, MISSING, () -> x.lays(2));
        finds("lays(4)", x, BEYOND, () -> x.lays(4));
        finds("lays(-1)", x, BEYOND, () -> x.lays(-1));
    }

    private static void book() {
        ComeIfShe x = party("!b", "a");
        x.sheet(1, 16, 6);
        due("book", x.book(1), 6);
        numbers("round", x, 1, 0, 1, 3, 2, 0, 1);
        due("the list stays", x.now(0), 0);
        x.sheet(1, 8, 0);
        due("no numbers", x.book(1), 0);
        finds("missing", x, MISSING, () -> x.book(2));
        finds("book(4)", x, BEYOND, () -> x.book(4));
        finds("book(-1)", x, BEYOND, () -> x.book(-1));
    }

    private static void read() {
        ComeIfShe x = party("!b", "a");
        x.sheet(0, 16, 5);
        x.book(0);
        // 0, 1, 3, 2, 0: guest 0 as GUEST, EAGER, SHY, HOST; guest 1 as GUEST, EAGER, SHY
        // (as HOST it would come by 0); SULKY and NEVER are told apart at once.
        due("read", x.read(0), 4 + 3);
        x.write(0, 4, 1);
        due("what none explains", x.read(0), 0);
        x.sheet(0, 64, 0);
        due("no numbers: all pairs", x.read(0), 12);
        x.sheet(0, 64, 1);
        due("one: all pairs", x.read(0), 12);
        x.write(0, 0, 3);
        due("one: all pairs", x.read(0), 12);
        x.write(0, 0, 4);
        due("one who isn't a guest", x.read(0), 0);
        x.write(0, 0, 1L << 32);
        due("a high bit", x.read(0), 0);
        x.write(0, 0, -1);
        due("below 0", x.read(0), 0);
        due("kinds stay", x.of(0, 0), 0);
        finds("missing", x, MISSING, () -> x.read(2));
        finds("read(4)", x, BEYOND, () -> x.read(4));
        finds("read(-1)", x, BEYOND, () -> x.read(-1));
        ComeIfShe nobody = new ComeIfShe();
        nobody.sheet(0, 8, 3);
        due("no guests, no pairs", nobody.read(0), 0);
        ComeIfShe all = party(null, null, null, null, null, null, null, null);
        all.list(255);
        all.sheet(0, 8, 2);
        all.book(0);
        // By all, GUEST, EAGER and HOST come, SULKY too (seven others are too many for SHY).
        due("a list of all in 8 bits", all.read(0), 8 * 4);
    }

    // ---- 39 to 43: images

    private static void images() {
        ComeIfShe x = party("b", "1");
        x.list(1);
        x.feed('a', 1);
        due("image", x.image(), 1);
        String was = seen(x);
        x.guest(2, 5);
        tell(x, 0, "|");
        tell(x, 0, "0");
        tell(x, 2, "0");
        x.turn(1, 3);
        x.cost(1, 77);
        x.list(6);
        x.feed('b', 1);
        x.sheet(0, 8, 3);
        finds("a finding in between", x, BEYOND, () -> x.call(3));
        due("undo", x.undo(), 2);
        due("the tape stays as it was", x.count(1), 1);
        due("as it was", seen(x).equals(was) ? 1 : 0, 1);
        due("would", x.now(2), 2);
        due("sheets are not taken back", x.write(0, 2, 1), 0);
        due("findings neither", x.status(-1), 1);
        due("a guest anew: no term", x.guest(0, 0), 2);
        due("it always holds", x.of(2, 4), 1);
        due("told", x.count(3), 3);
        due("undo again", x.undo(), 2);
        x.cost(0, 1);
        due("a later image", x.image(), 1);
        x.cost(0, 2);
        due("undo to the latest", x.undo(), 2);
        due("cost", x.of(0, 1), 1);
        due("tear", x.tear(), 1);
        due("tear again", x.tear(), 0);
        finds("undo()", x, NONE, () -> x.undo());
        due("an image of nobody", new ComeIfShe().image(), 1);
    }

    private static void count() {
        ComeIfShe x = party(null, "0", null);
        x.cost(2, 99);
        x.feed(0, 3);
        due("count(0)", x.count(0), 3);
        due("count(1)", x.count(1), 3);
        due("count(2)", x.count(2), 119);
        due("count(3)", x.count(3), 2);
        finds("count(4)", x, BEYOND, () -> x.count(4));
        finds("count(-1)", x, BEYOND, () -> x.count(-1));
    }

    private static void status() {
        ComeIfShe x = party((String) null);
        x.call(1);
        x.as(0, 3);
        x.undo();
        x.undo();
        x.lays(0);
        x.sheet(0, 8, -1);
        for (int i = 0; i < 15; i++) {
            x.feed(0, 4);
        }
        x.feed(0, 1);
        int[] want = {1, 1, 1, 2, 0, 1, 1};
        for (int which = 0; which < 7; which++) {
            due("status(" + which + ")", x.status(which), want[which]);
        }
        due("status(-1)", x.status(-1), 7);
        due("status(7)", x.status(7), BEYOND);
        due("counted from then on", x.status(0), 2);
        due("status(-2)", x.status(-2), BEYOND);
        due("counted from then on", x.status(-1), 9);
        finds("status(MIN)", x, BEYOND, () -> x.status(MIN));
        finds("status(MAX)", x, BEYOND, () -> x.status(MAX));
    }
}
