import java.nio.file.Files;
import java.nio.file.Path;

/** The edges that the document's section 'Terms' names. */
public final class TermEdgesTest {
    private static final Edges edges = new Edges(Edges.TERMS, Edges.TERMS);

    public static void main(String[] args) throws Exception {
        findings();
        findingsInLongs();
        findingsInOrder();
        refusedBeyond();
        refusedOtherwise();
        setsByBits();
        guests();
        kinds();
        wouldCome();
        settled();
        tape();
        grammar();
        names();
        others();
        signsAndDigits();
        blanks();
        open();
        faults();
        faultsOfEachByte();
        roundAndCall();
        onlyGuestsThatThereAre();
        bought();
        last();
        sheets();
        headings();
        edges.end();
    }

    private static void says(String words) {
        edges.says(Edges.TERMS, words);
    }

    // ---- findings

    private static void findings() {
        says("FINDINGS are answers below -1000000000: -1000000001 BEYOND, -1000000002 FULL, -1000000003 KIND, "
            + "-1000000004 NONE, -1000000005 STATE, -1000000006 MISSING, -1000000007 SIZE");
        ComeIfShe x = Edges.after(Edges::crowd);
        edges.due("BEYOND", x.call(8), -1000000001L);
        edges.due("FULL", x.guest(0, 0), -1000000002L);
        edges.due("KIND", x.as(0, 1), -1000000003L);
        edges.due("NONE", x.undo(), -1000000004L);
        x.sheet(0, 0, 0);
        edges.due("MISSING", x.lays(0), -1000000006L);
        edges.due("SIZE", x.sheet(0, 8, -1), -1000000007L);
        for (int which = 0; which < 7; which++) {
            edges.due("status(" + which + "): no promise asks for STATE", x.status(which), which == 4 ? 0 : 1);
        }
    }

    private static void findingsInLongs() {
        says("(in longs, too).");
        ComeIfShe x = Edges.after(Edges::rich);
        edges.due("odds()", x.odds(5, 0), -1000000001L);
        edges.due("write()", x.write(4, 0, 0), -1000000001L);
        edges.due("write()", x.write(3, 0, 0), -1000000006L);
        edges.due("write()", x.write(2, 0, 0), -1000000001L);
    }

    private static void findingsInOrder() {
        says("Each act tells its findings in the order in which they are asked");
        Edges.History none = x -> {
            Edges.invite(x, "!a");
            x.feed('|', 1);
        };
        edges.refused("guest: BEYOND, FULL", Edges::crowd, Edges.BEYOND, x -> x.guest(6, 0));
        edges.refused("as: BEYOND, KIND", Edges::rich, Edges.BEYOND, x -> x.as(5, 5));
        edges.refused("term: BEYOND, a FAULT", none, Edges.BEYOND, x -> x.term(1));
        edges.refused("feed: BEYOND, FULL", Edges::crowd, Edges.BEYOND, x -> x.feed(0, 5));
        edges.refused("ring: BEYOND, though it never settles", none, Edges.BEYOND, x -> x.ring(2));
        edges.refused("ith: BEYOND, NONE", none, Edges.BEYOND, x -> x.ith(-1));
        edges.refused("sure: BEYOND, NONE", none, Edges.BEYOND, x -> x.sure(4));
        edges.refused("buys: BEYOND, NONE", none, Edges.BEYOND, x -> x.buys(9));
        edges.refused("price: BEYOND, NONE", none, Edges.BEYOND, x -> x.price(9));
        edges.refused("invites: BEYOND, NONE", none, Edges.BEYOND, x -> x.invites(3, 2));
        edges.refused("sheet: BEYOND, SIZE", none, Edges.BEYOND, x -> x.sheet(4, 8, -1));
        edges.refused("sheet: BEYOND, SIZE", none, Edges.BEYOND, x -> x.sheet(0, 9, -1));
        edges.refused("write: BEYOND, MISSING", none, Edges.BEYOND, x -> x.write(4, -1, 0));
        edges.refused("write: MISSING, BEYOND", none, Edges.MISSING, x -> x.write(0, -1, 0));
        edges.refused("copy: BEYOND, MISSING", none, Edges.BEYOND, x -> x.copy(0, 0, 4, 0, 0));
        edges.refused("copy: MISSING, BEYOND", none, Edges.MISSING, x -> x.copy(0, -1, 1, -1, -1));
        edges.refused("copy: MISSING, KIND", Edges::rich, Edges.MISSING, x -> x.copy(0, 0, 3, 0, 0));
        edges.refused("copy: KIND, BEYOND", Edges::rich, Edges.KIND, x -> x.copy(0, -1, 1, -1, -1));
        edges.refused("lays: BEYOND, MISSING", none, Edges.BEYOND, x -> x.lays(4));
        edges.refused("book: BEYOND, MISSING", none, Edges.BEYOND, x -> x.book(4));
        edges.refused("read: BEYOND, MISSING", none, Edges.BEYOND, x -> x.read(4));
    }

    private static void refusedBeyond() {
        says("; one that answers a finding changes nothing but status().");
        Edges.Act[] acts = {
            x -> x.guest(6, 0), x -> x.guest(0, 100), x -> x.of(5, 0), x -> x.of(0, 6), x -> x.cost(5, 0),
            x -> x.cost(0, 100), x -> x.turn(5, 0), x -> x.turn(0, 6), x -> x.as(5, 0), x -> x.as(0, 6),
            x -> x.term(5), x -> x.feed(0, 5), x -> x.list(32), x -> x.now(5), x -> x.call(5), x -> x.calls(21),
            x -> x.rounds(65), x -> x.on(65), x -> x.ring(2), x -> x.ith(-1), x -> x.sure(4), x -> x.odds(5, 0),
            x -> x.odds(0, 2), x -> x.last(32), x -> x.buys(9), x -> x.price(9), x -> x.invites(0, 9),
            x -> x.against(0, 5), x -> x.against(0, 0), x -> x.minds(5), x -> x.kind(5), x -> x.sheet(4, 8, 0),
            x -> x.sheet(0, 8, 41), x -> x.sheet(0, 0, 41), x -> x.write(4, 0, 1), x -> x.write(0, 3, 1),
            x -> x.copy(0, 0, 4, 0, 1), x -> x.copy(0, 0, 0, 1, 3), x -> x.lays(4), x -> x.book(4), x -> x.read(4),
            x -> x.count(4), x -> x.status(7)};
        for (int i = 0; i < acts.length; i++) {
            edges.refused("act " + i, Edges::rich, Edges.BEYOND, acts[i]);
        }
    }

    private static void refusedOtherwise() {
        edges.refused("guest", Edges::crowd, Edges.FULL, x -> x.guest(0, 0));
        edges.refused("feed", Edges::crowd, Edges.FULL, x -> x.feed('a', 1));
        edges.refused("as", Edges::rich, Edges.KIND, x -> x.as(0, 5));
        edges.refused("copy", Edges::rich, Edges.KIND, x -> x.copy(0, 0, 1, 0, 1));
        Edges.History ring = x -> {
            Edges.rich(x);
            x.wipe();
            Edges.tell(x, 0, "!a");
        };
        edges.refused("when", ring, Edges.NONE, x -> x.when());
        edges.refused("fewest", ring, Edges.NONE, x -> x.fewest());
        edges.refused("first", ring, Edges.NONE, x -> x.first());
        edges.refused("ith", ring, Edges.NONE, x -> x.ith(0));
        edges.refused("sure", ring, Edges.NONE, x -> x.sure(0));
        edges.refused("buys", Edges::rich, Edges.NONE, x -> x.buys(6));
        edges.refused("price", Edges::rich, Edges.NONE, x -> x.price(6));
        edges.refused("invites", Edges::rich, Edges.NONE, x -> x.invites(6, 6));
        edges.refused("spoils", Edges::empty, Edges.NONE, x -> x.spoils());
        edges.refused("undo", Edges::crowd, Edges.NONE, x -> x.undo());
        edges.refused("write", Edges::rich, Edges.MISSING, x -> x.write(3, 0, 1));
        edges.refused("copy", Edges::rich, Edges.MISSING, x -> x.copy(3, 0, 0, 0, 1));
        edges.refused("lays", Edges::rich, Edges.MISSING, x -> x.lays(3));
        edges.refused("book", Edges::rich, Edges.MISSING, x -> x.book(3));
        edges.refused("read", Edges::rich, Edges.MISSING, x -> x.read(3));
        edges.refused("sheet", Edges::rich, Edges.SIZE, x -> x.sheet(0, 8, -1));
        edges.refused("sheet", Edges::rich, Edges.SIZE, x -> x.sheet(0, 0, -1));
    }

    private static void setsByBits() {
        says("Quotients are cut.");
        ComeIfShe three = Edges.party("a|b", "b");
        edges.due("the only fraction is told in parts, so nothing is lost", three.odds(0, 0), 3);
        edges.due("by", three.odds(0, 1), 4);
        says("Sets (LISTS, too) are told by bits");
        ComeIfShe x = Edges.eight("0");
        for (int g = 0; g < 8; g++) {
            x.list(1 << g);
            edges.due("guest " + g + " alone", x.of(g, 2), 1);
            edges.due("as a list", x.now(0), 1 << g);
            edges.due("as a set bought", x.last(1 << g), 1 << g);
        }
        says("; of several the least number counts, where nothing else is told.");
        edges.due("spoils()", Edges.eight("1").spoils(), 0);
        edges.due("kind()", Edges.party("1").kind(0), 0);
        edges.due("buys()", Edges.eight("0").buys(1), 1);
        edges.due("invites()", Edges.eight("1").invites(1, 1), 1);
        edges.due("first()", Edges.eight("1").first(), 0);
    }

    // ---- 1: guests

    private static void guests() {
        says("1. GUESTS 0, 1, .. (at most 8)");
        ComeIfShe x = new ComeIfShe();
        for (int g = 0; g < 8; g++) {
            edges.due("guest " + g, x.guest(0, 0), g);
        }
        edges.due("a ninth", x.guest(0, 0), Edges.FULL);
        edges.due("eight", x.count(0), 8);
        says("; each with a COST (0 to 99; 10 at first)");
        // guest() tells each one's cost, so that a cost of 10 at first is never seen.
        edges.within("cost of a new one", Edges::rich, 0, 99, (y, cost) -> y.guest(0, cost));
        edges.within("cost", Edges::rich, 0, 99, (y, cost) -> y.cost(0, cost));
        says("and a TERM (of one who has told none: it always holds).");
        ComeIfShe none = Edges.party((String) null, "0");
        for (int list = 0; list < 4; list++) {
            none.list(list);
            edges.due("by list " + list, none.of(0, 4), 1);
        }
        edges.due("none is told", none.count(3), 2);
        says("THE LIST: who comes, as they say now (nobody at first).");
        edges.due("a new one", new ComeIfShe().now(0), 0);
        edges.due("with guests", Edges.eight("1").now(0), 0);
    }

    private static void kinds() {
        says("are of KINDS: 0 GUEST, 1 EAGER under GUEST, 2 SHY under GUEST, 3 NEVER under GUEST, "
            + "4 HOST under EAGER, 5 SULKY under SHY");
        int[] above = {0, 0, 0, 0, 1, 2};
        for (int own = 0; own < 6; own++) {
            ComeIfShe x = new ComeIfShe();
            x.guest(own, 33);
            for (int kind = 0; kind < 6; kind++) {
                boolean is = kind == own || kind == above[own] || kind == 0;
                edges.due(own + " as " + kind, x.as(0, kind), is ? 33 : Edges.KIND);
            }
        }
        edges.within("kind", Edges::rich, 0, 5, (x, kind) -> x.guest(kind, 0));
    }

    private static void wouldCome() {
        would("WOULD one come, by a LIST: GUEST: if its TERM holds.", 0, "00000000", "11111111");
        would("EAGER: as GUEST, or if 4 or more others are on the LIST.", 1, "00001111", "11111111");
        would("SHY: as GUEST, and if no more than 4 others are on it.", 2, "00000000", "11111000");
        would("NEVER: no.", 3, "00000000", "00000000");
        would("HOST: as EAGER, or if nobody else is on it.", 4, "10001111", "11111111");
        would("SULKY: if a SHY one wouldn't.", 5, "11111111", "00000111");
    }

    /** Whether one would, with 0 to 7 others on the list, if its term doesn't hold and if it does. */
    private static void would(String words, int kind, String without, String with) {
        says(words);
        for (int own : new int[] {0, 3, 7}) {
            for (int term = 0; term < 2; term++) {
                ComeIfShe x = Edges.eight("0");
                x.turn(own, kind);
                Edges.tell(x, own, String.valueOf(term));
                for (int others = 0; others < 8; others++) {
                    int want = (term == 0 ? without : with).charAt(others) - '0';
                    int list = someOthers(own, others);
                    x.list(list);
                    edges.due("kind " + kind + ", " + others + " others", x.of(own, 3), want);
                    x.list(list | 1 << own);
                    edges.due("kind " + kind + ", itself and " + others + " others", x.of(own, 3), want);
                }
            }
        }
    }

    private static int someOthers(int own, int n) {
        int list = 0;
        for (int g = 7; g >= 0 && Integer.bitCount(list) < n; g--) {
            list |= g == own ? 0 : 1 << g;
        }
        return list;
    }

    private static void settled() {
        says("A LIST is SETTLED, if just those are on it who WOULD come by it.");
        ComeIfShe x = Edges.party("1", "a", "0");
        for (int list = 0; list < 8; list++) {
            x.list(list);
            edges.due("list " + list, x.now(3), list == 3 ? 1 : 0);
        }
        edges.due("of nobody", new ComeIfShe().now(3), 1);
    }

    // ---- terms

    private static void tape() {
        says("A TERM is read from THE TAPE (bytes, at most 60)");
        ComeIfShe x = Edges.party((String) null);
        edges.due("sixty", Edges.fed(x, Edges.sixty()), 60);
        edges.due("one more", x.feed('a', 1), Edges.FULL);
        edges.due("sixty are a term", x.term(0), 1);
        edges.due("none are none", x.term(0), -1);
        edges.due("one is", Edges.tell(x, 0, "1"), 1);
    }

    private static void grammar() {
        says(": T: A { \"|\" A }. A: U { \"&\" U }.");
        holds("1|0", 0, true);
        holds("0|0|1", 0, true);
        holds("0|0|0", 0, false);
        holds("1&1&0", 0, false);
        holds("1&1&1", 0, true);
        holds("1|1&0", 0, true);
        holds("0&1|1", 0, true);
        holds("0&1|1&0", 0, false);
        says("U: \"!\" U | \"(\" T \")\" | NAME | \"n\" SIGN DIGIT | \"1\" | \"0\".");
        holds("!1|1", 0, true);
        holds("!0&0", 0, false);
        holds("!(0&0)", 0, true);
        holds("!!1", 0, true);
        holds("!!!1", 0, false);
        holds("(1|1)&0", 0, false);
        holds("0&(1|1)", 0, false);
        holds("((0)|(1))&(1)", 0, true);
        holds("!n=0|n=0", 0, true);
        says("\"1\": it holds, \"0\": it doesn't.");
        holds("1", 0, true);
        holds("1", 255, true);
        holds("0", 0, false);
        holds("0", 255, false);
    }

    /** The term is told by guest 4, among eight. */
    private static void holds(String term, int list, boolean want) {
        ComeIfShe x = Edges.party(null, null, null, null, null, null, null, null);
        edges.due("term " + term, Edges.tell(x, 4, term), 1);
        x.list(list);
        edges.due(term + " by " + list, x.of(4, 4), want ? 1 : 0);
    }

    private static void names() {
        says("NAME: a to h, that GUEST 0 to 7 is on the LIST (also one that there isn't: not).");
        for (int g = 0; g < 8; g++) {
            String name = String.valueOf((char) ('a' + g));
            holds(name, 1 << g, true);
            holds(name, 255 - (1 << g), false);
            holds(name, 255, true);
            holds("!" + name, 0, true);
        }
        fault("`", 0);
        fault("i", 0);
        fault("A", 0);
        fault("H", 0);
        ComeIfShe x = Edges.party("h", "!h", "c", "!c");
        edges.due("who aren't guests aren't on it", x.now(2), 2 + 8);
        x.list(15);
        edges.due("nor if all are", x.now(2), 2 + 4);
        ComeIfShe later = Edges.party("b");
        later.guest(0, 0);
        later.list(2);
        edges.due("one who came later is", later.now(2), 3);
    }

    private static void others() {
        says("n: how many others are on it.");
        for (int n = 0; n < 8; n++) {
            String term = "n=" + n;
            holds(term, someOthers(4, n), true);
            holds(term, someOthers(4, n) | 16, true);
            holds(term, someOthers(4, n == 7 ? 6 : n + 1), false);
        }
    }

    private static void signsAndDigits() {
        says("SIGN: \"<\" | \"=\" | \">\".");
        for (int digit = 0; digit < 10; digit++) {
            for (int n = 0; n < 8; n++) {
                int list = someOthers(4, n) | (n % 2 == 0 ? 16 : 0);
                holds("n<" + digit, list, n < digit);
                holds("n=" + digit, list, n == digit);
                holds("n>" + digit, list, n > digit);
            }
        }
        fault("n;5", 1);
        fault("n?5", 1);
        fault("n!5", 1);
        fault("n5", 1);
        fault("n<=5", 2);
        says("DIGIT: 0 to 9.");
        fault("n</", 2);
        fault("n<:", 2);
        fault("n<10", 3);
        fault("n>-1", 2);
        fault("n=n", 2);
    }

    private static void blanks() {
        says("No blanks.");
        fault(" ", 0);
        fault(" a", 0);
        fault("a ", 1);
        fault("a &b", 1);
        fault("a& b", 2);
        fault("! a", 1);
        fault("( a)", 1);
        fault("(a )", 2);
        fault("n <5", 1);
        fault("n< 5", 2);
        fault("a\t", 1);
        fault("a\n", 1);
    }

    private static void open() {
        says("At most 6 of \"!\" and \"(\" are open at once.");
        for (int brackets = 0; brackets <= 6; brackets++) {
            String opens = "!".repeat(6 - brackets) + "(".repeat(brackets);
            String closes = ")".repeat(brackets);
            told(opens + "a" + closes);
            told(opens + "a" + closes + "&" + opens + "b" + closes);
            fault(opens + "!a" + closes, 6);
            fault(opens + "(a)" + closes, 6);
            fault(opens + "a" + closes + "|" + opens + "!a" + closes, 14 + brackets);
        }
        told("(((((!a|!b)))))");
        told("(((((!a|(b))))))");
        told("((((!!a&!(b)))))");
        fault("((((!!!a))))", 6);
        fault("(((((!a|!!b)))))", 9);
        fault("(((((!(a))))))", 6);
        told("!(!(!(a)))");
        fault("!(!(!(!a)))", 6);
        fault("!(!(!(a&(b))))", 8);
        told("!(!(!(a)&!b))");
        told("!(!(!(a)|!(b)))");
    }

    private static void told(String text) {
        ComeIfShe x = Edges.party((String) null);
        edges.due("term " + text, Edges.tell(x, 0, text), 1);
    }

    private static void fault(String text, int place) {
        ComeIfShe x = Edges.party("0");
        edges.due("fault of " + text, Edges.tell(x, 0, text), -1 - place);
        edges.due("the term stays", x.of(0, 4), 0);
    }

    private static void faults() {
        says("FAULT: the place (from 0) of the first byte with which no TERM goes on");
        fault("|", 0);
        fault(")", 0);
        fault("ab", 1);
        fault("a)", 1);
        fault("a!b", 1);
        fault("a(b)", 1);
        fault("a||b", 2);
        fault("a&&b", 2);
        fault("()", 1);
        fault("(a))", 3);
        fault("!)", 1);
        fault("(|", 1);
        fault("i(((((((", 0);
        fault("1".repeat(60), 1);
        fault("1" + "&1".repeat(29) + ")", 59);
        says(", or how many bytes there are if it ends too early.");
        fault("", 0);
        fault("!", 1);
        fault("(", 1);
        fault("n", 1);
        fault("n<", 2);
        fault("a|", 2);
        fault("a&", 2);
        fault("(a", 2);
        fault("((a)", 4);
        fault("!!!!!!", 6);
        fault("1&".repeat(30), 60);
        fault("1" + "&1".repeat(28) + "&n=", 60);
    }

    private static void faultsOfEachByte() {
        says("FAULT: the place (from 0) of the first byte with which no TERM goes on");
        goesOn("", "abcdefgh01", "n!(");
        goesOn("!", "abcdefgh01", "n!(");
        goesOn("a&", "abcdefgh01", "n!(");
        goesOn("a|", "abcdefgh01", "n!(");
        goesOn("(", "", "abcdefgh01n!(");
        goesOn("!!!!!!", "abcdefgh01", "n");
        goesOn("((((((", "", "abcdefgh01n");
        goesOn("a", "", "&|");
        goesOn("n<5", "", "&|");
        goesOn("(a)", "", "&|");
        goesOn("(a", ")", "&|");
        goesOn("((a", "", "&|)");
        goesOn("n", "", "<=>");
        goesOn("n=", "0123456789", "");
    }

    /** With which bytes a beginning is a term, with which one goes on, and with all others none. */
    private static void goesOn(String beginning, String ends, String begins) {
        ComeIfShe x = Edges.party((String) null);
        int length = beginning.length();
        for (int c = 0; c < 256; c++) {
            x = c % 64 == 0 ? Edges.party((String) null) : x;
            int want = ends.indexOf(c) >= 0 ? 1 : begins.indexOf(c) >= 0 ? -2 - length : -1 - length;
            edges.due(beginning + " and byte " + c, Edges.tell(x, 0, beginning + (char) c), want);
        }
    }

    // ---- 2: rounds, calls

    private static void roundAndCall() {
        says("2. A ROUND: all at once, those are on THE LIST who WOULD come by it as it was.");
        ComeIfShe swap = Edges.party("b", "a");
        swap.list(1);
        edges.due("they change places", swap.rounds(1), 2);
        edges.due("and back", swap.rounds(1), 1);
        edges.due("of nobody", new ComeIfShe().rounds(1), 0);
        edges.due("all", Edges.eight("1").rounds(1), 255);
        says("A CALL of one: it alone is on THE LIST, or not, as it WOULD come by it.");
        ComeIfShe x = Edges.eight("1");
        for (int g = 0; g < 8; g++) {
            x.list(0);
            x.call(g);
            edges.due("it alone comes", x.now(0), 1 << g);
        }
        ComeIfShe none = Edges.eight("0");
        for (int g = 0; g < 8; g++) {
            none.list(255);
            none.call(g);
            edges.due("it alone leaves", none.now(0), 255 - (1 << g));
        }
    }

    private static void onlyGuestsThatThereAre() {
        says("Nobody but GUESTS that there are is ever on a LIST that is told.");
        for (int size = 0; size <= 8; size++) {
            ComeIfShe x = Edges.party(new String[size]);
            int all = (1 << size) - 1;
            edges.due("now(2)", x.now(2), all);
            edges.due("on(1)", x.on(1), all);
            edges.due("last(0)", x.last(0), all);
            edges.due("ith(0)", x.ith(0), all);
            edges.due("sure(0)", x.sure(0), all);
            edges.due("basin()", x.basin(), all + 1);
            edges.due("list()", x.list(all + 1), Edges.BEYOND);
            x.sheet(0, 8, 40);
            x.write(0, size, 1);
            edges.due("lays()", x.lays(0), 0);
            x.book(0);
            edges.due("book()", x.write(0, 1, 0), (byte) all);
            edges.due("rounds()", x.rounds(64), all);
        }
    }

    private static void bought() {
        says("BOUGHT: a set of GUESTS who are on each LIST whatever they WOULD");
        ComeIfShe x = Edges.party("0", "a", "!a");
        x.turn(0, 3);
        edges.due("who never would", x.last(1), 3);
        edges.due("who wouldn't any more", x.last(5), 7);
        edges.due("from the first list on", Edges.party("0", "a|b").last(1), 3);
        says("(KEPT OUT: who are on none)");
        edges.due("who would come at once", Edges.party("1", "a", "a").spoils(), 0);
        edges.due("others don't see it on any list", Edges.party("0", "1", "b").invites(1, 8), 2);
        edges.due("one who would come by itself", Edges.party("1", "a").invites(1, 1), 1);
        says("; ROUNDS go on for all others.");
        edges.due("a chain", Edges.party("0", "a", "b", "c", "d", "e", "f", "g").last(1), 255);
        edges.due("those who leave again", Edges.party("0", "!a", "n=0").last(1), 1);
    }

    private static void last() {
        says("LAST: from nobody (but those BOUGHT) on, the LIST behind 64 ROUNDS.");
        ComeIfShe x = Edges.party(Edges.counting());
        edges.due("the 64th", x.last(0), 64);
        x.list(255);
        edges.due("whatever the list", x.last(0), 64);
        edges.due("by twos from 1 on", x.last(1), 129);
        edges.due("two change places: an even number of rounds", Edges.party("!a").last(0), 0);
        edges.due("three come round: one more than 63", Edges.party("!a&!b", "a", "b").last(0), 1);
        edges.due("of nobody", new ComeIfShe().last(0), 0);
    }

    // ---- 3: sheets, and the interface

    private static void sheets() {
        says("3. SHEETS 0 to 3 are rows of at most 40 numbers of 8, 16 or 64 bits, or MISSING (at first).");
        for (int s = 0; s < 4; s++) {
            int sheet = s;
            edges.refused("sheet " + s + " at first", Edges::empty, Edges.MISSING, x -> x.write(sheet, 0, 0));
            edges.refused("sheet " + s + " of 41", Edges::empty, Edges.BEYOND, x -> x.sheet(sheet, 8, 41));
            edges.due("sheet " + s + " of 40", new ComeIfShe().sheet(s, 8, 40), 40);
            edges.due("sheet " + s + " of 0", new ComeIfShe().sheet(s, 8, 0), 0);
        }
        edges.within("sheet", Edges::empty, 0, 3, (x, s) -> x.sheet(s, 16, 1));
        ComeIfShe x = new ComeIfShe();
        for (int bits = -1; bits <= 129; bits++) {
            boolean is = bits == 0 || bits == 8 || bits == 16 || bits == 64;
            edges.due("bits " + bits, x.sheet(0, bits, 1), !is ? Edges.BEYOND : bits == 0 ? 0 : 1);
        }
    }

    private static void headings() throws Exception {
        String source = Files.readString(Path.of("src/main/java/ComeIfShe.java"));
        String[][] rows = {
            {"guests", "guest", "of", "cost", "turn", "as", "term", "feed", "wipe"},
            {"the list", "list", "now", "call", "calls", "rounds", "on"},
            {"what settles", "when", "ring", "fewest", "first", "settled", "ith", "sure", "basin", "odds"},
            {"whom to get, who spoils it", "last", "buys", "price", "spoils", "invites", "against", "minds", "kind"},
            {"sheets", "sheet", "write", "copy", "lays", "book", "read"},
            {"images", "image", "undo", "tear", "count", "status"}};
        int at = 0;
        for (String[] row : rows) {
            String names = String.join("`, `", row).substring(row[0].length() + 3);
            says("Ahead of the calls " + names + "` the interface says: ---- " + row[0] + ".");
            int heading = source.indexOf("// ---- " + row[0] + "\n");
            edges.due("the heading is behind the ones before", heading > at ? 1 : 0, 1);
            at = heading;
            for (int i = 1; i < row.length; i++) {
                int call = Math.max(source.indexOf("public int " + row[i] + "("), source.indexOf("public long " + row[i] + "("));
                edges.due(row[i] + " is behind what stands ahead of it", call > at ? 1 : 0, 1);
                at = call;
            }
        }
    }
}
