/** The edges that promises 10 to 15 name: the list, calls, rounds. */
public final class ListEdgesTest {
    private static final Edges edges = new Edges(10, 15);

    public static void main(String[] args) {
        list();
        now();
        call();
        calls();
        rounds();
        on();
        edges.end();
    }

    private static void list() {
        edges.says(10, "THE LIST becomes a set of GUESTS: what it was.");
        ComeIfShe nobody = new ComeIfShe();
        edges.due("of no guests", nobody.list(0), 0);
        ComeIfShe x = Edges.eight("0");
        edges.due("all", x.list(255), 0);
        edges.due("the last alone", x.list(128), 255);
        edges.due("the first alone", x.list(1), 128);
        edges.due("nobody", x.list(0), 1);
        edges.due("nobody again", x.list(0), 0);
        edges.says(10, "BEYOND.");
        edges.sets((y, set) -> y.list(set));
        edges.refused("the sixth of five alone", Edges::rich, Edges.BEYOND, y -> y.list(32));
        edges.refused("all bits", Edges::crowd, Edges.BEYOND, y -> y.list(-1));
        edges.refused("a bit that would wrap to guest 0", Edges::crowd, Edges.BEYOND, y -> y.list(1 << 8 | 1));
        ComeIfShe grown = Edges.party("0");
        edges.due("two of one", grown.list(2), Edges.BEYOND);
        grown.guest(0, 0);
        edges.due("two of two", grown.list(2), 0);
    }

    private static void now() {
        ComeIfShe nobody = new ComeIfShe();
        ComeIfShe all = Edges.eight("1");
        all.list(255);
        edges.says(11, "What 0 THE LIST");
        edges.due("nobody", nobody.now(0), 0);
        edges.due("all", all.now(0), 255);
        edges.says(11, "1 how many are on it");
        edges.due("nobody", nobody.now(1), 0);
        edges.due("all", all.now(1), 8);
        edges.says(11, "2 those who WOULD come by it, as a set");
        edges.due("nobody", nobody.now(2), 0);
        edges.due("all", all.now(2), 255);
        edges.due("only guests that there are", Edges.party(null, null).now(2), 3);
        edges.says(11, "3 1 if it is SETTLED, else 0");
        edges.due("nobody", nobody.now(3), 1);
        edges.due("all", all.now(3), 1);
        all.list(254);
        edges.due("all but one", all.now(3), 0);
        all.list(255);
        all.turn(7, 3);
        edges.due("one too many", all.now(3), 0);
        edges.says(11, "4 COSTS of those on it together.");
        edges.due("of nobody", nobody.now(4), 0);
        for (int g = 0; g < 8; g++) {
            all.cost(g, 99);
        }
        edges.due("the greatest of all", all.now(4), 792);
        all.list(127);
        edges.due("without one who isn't on it", all.now(4), 693);
        edges.onlyAsks("now(2)", x -> x.now(2));
        edges.says(11, "BEYOND.");
        edges.within("what", Edges::empty, 0, 4, (x, what) -> x.now(what));
        edges.within("what", Edges::rich, 0, 4, (x, what) -> x.now(what));
    }

    private static void call() {
        edges.says(12, "A CALL: 1 if it changed its mind, else 0.");
        ComeIfShe x = Edges.party("!a", "1", "0", "1");
        edges.due("it comes", x.call(0), 1);
        edges.due("it alone", x.now(0), 1);
        edges.due("it stays away", x.call(0), 1);
        edges.due("it alone", x.now(0), 0);
        edges.due("it stays away still", x.call(2), 0);
        edges.due("nothing changed", x.now(0), 0);
        x.list(15);
        edges.due("it comes still", x.call(3), 0);
        edges.due("nothing changed", x.now(0), 15);
        edges.says(12, "BEYOND.");
        edges.guests((y, guest) -> y.call(guest));
    }

    private static void calls() {
        edges.says(13, "CALLS of all, by numbers, one behind the other");
        ComeIfShe chain = Edges.party("1", "a", "b", "c", "d", "e", "f", "g");
        edges.due("each hears of the one ahead", chain.calls(1), 8);
        edges.due("all come", chain.now(0), 255);
        ComeIfShe back = Edges.party("b", "c", "d", "e", "f", "g", "h", "1");
        edges.due("each is called too early", back.calls(1), 1);
        edges.due("the last alone", back.now(0), 128);
        edges.due("it takes seven times more", back.calls(7), 7);
        edges.due("all come", back.now(0), 255);
        edges.says(13, "n times (1 to 20)");
        edges.within("n", Edges::empty, 1, 20, (x, n) -> x.calls(n));
        edges.within("n", Edges::rich, 1, 20, (x, n) -> x.calls(n));
        edges.says(13, ": how many changed their minds in all.");
        edges.due("once", Edges.party("!a").calls(1), 1);
        edges.due("twenty times", Edges.party("!a").calls(20), 20);
        edges.due("eight, twenty times", Edges.eight("!*").calls(20), 160);
        edges.due("none of eight", Edges.eight("0").calls(20), 0);
        edges.due("of nobody", new ComeIfShe().calls(20), 0);
        ComeIfShe odd = Edges.party("!a");
        odd.calls(19);
        edges.due("behind nineteen times", odd.now(0), 1);
        edges.says(13, "BEYOND.");
        edges.refused("n 0", Edges::crowd, Edges.BEYOND, x -> x.calls(0));
        edges.refused("n 21", Edges::crowd, Edges.BEYOND, x -> x.calls(21));
        edges.refused("n -20", Edges::crowd, Edges.BEYOND, x -> x.calls(-20));
    }

    private static void rounds() {
        edges.says(14, "n ROUNDS (1 to 64): THE LIST then.");
        ComeIfShe one = Edges.party(Edges.counting());
        edges.due("one", one.rounds(1), 1);
        edges.due("the list", one.now(0), 1);
        edges.due("64 more", one.rounds(64), 65);
        edges.due("the list", one.now(0), 65);
        one.list(255);
        edges.due("from the last to the first", one.rounds(1), 0);
        one.list(200);
        edges.due("over the end", one.rounds(64), 8);
        edges.due("of nobody", new ComeIfShe().rounds(64), 0);
        ComeIfShe still = Edges.party(Edges.countingTillFull(0));
        still.list(192);
        edges.due("just not there", still.rounds(62), 254);
        still.list(192);
        edges.due("there, and it stays", still.rounds(64), 255);
        edges.says(14, "BEYOND.");
        edges.within("n", Edges::empty, 1, 64, (x, n) -> x.rounds(n));
        edges.within("n", Edges::rich, 1, 64, (x, n) -> x.rounds(n));
        edges.within("n", Edges::crowd, 1, 64, (x, n) -> x.rounds(n));
    }

    private static void on() {
        edges.says(15, "THE LIST, were there n ROUNDS (0 to 64).");
        ComeIfShe x = Edges.party(Edges.counting());
        x.list(193);
        for (int n = 0; n <= 64; n++) {
            edges.due("on(" + n + ")", x.on(n), 193 + n & 255);
        }
        edges.due("the list stays", x.now(0), 193);
        edges.due("of nobody", new ComeIfShe().on(0), 0);
        edges.due("of nobody", new ComeIfShe().on(64), 0);
        edges.onlyAsks("on(64)", y -> y.on(64));
        edges.says(15, "BEYOND.");
        edges.within("n", Edges::empty, 0, 64, (y, n) -> y.on(n));
        edges.within("n", Edges::rich, 0, 64, (y, n) -> y.on(n));
    }
}
