/** The edges that promises 1 to 9 name: a new object, guests, terms, the tape. */
public final class GuestEdgesTest {
    private static final Edges edges = new Edges(1, 9);

    public static void main(String[] args) {
        newObject();
        guestNumber();
        guestBeyond();
        guestFull();
        ofEach();
        ofBeyond();
        cost();
        turn();
        as();
        termTold();
        termBeyond();
        termFault();
        feedBytes();
        feedBeyond();
        feedFull();
        wipe();
        edges.end();
    }

    private static void newObject() {
        ComeIfShe x = new ComeIfShe();
        edges.says(1, "No GUESTS");
        edges.due("count(0)", x.count(0), 0);
        edges.due("count(2)", x.count(2), 0);
        edges.due("count(3)", x.count(3), 0);
        edges.refused("guest 0", Edges::empty, Edges.BEYOND, y -> y.of(0, 0));
        edges.says(1, "nobody on THE LIST");
        edges.due("now(0)", x.now(0), 0);
        edges.due("now(1)", x.now(1), 0);
        edges.due("now(2)", x.now(2), 0);
        edges.due("now(4)", x.now(4), 0);
        edges.due("list(0): what it was", x.list(0), 0);
        edges.says(1, "THE TAPE is empty");
        edges.due("count(1)", x.count(1), 0);
        edges.due("wipe()", x.wipe(), 0);
        x.guest(0, 0);
        edges.due("term(0) of nothing", x.term(0), -1);
        edges.says(1, "no image is kept");
        edges.refused("undo()", Edges::empty, Edges.NONE, y -> y.undo());
        edges.due("tear()", x.tear(), 0);
        edges.due("objects have nothing in common", new ComeIfShe().count(0), 0);
    }

    private static void guestNumber() {
        edges.says(2, "A new GUEST: the number.");
        ComeIfShe x = new ComeIfShe();
        x.guest(0, 0);
        x.list(1);
        for (int g = 1; g < 8; g++) {
            edges.due("guest " + g, x.guest(g % 6, g), g);
            edges.due("its kind", x.of(g, 0), g % 6);
            edges.due("its cost", x.of(g, 1), g);
            edges.due("not on the list", x.of(g, 2), 0);
            edges.due("its term holds", x.of(g, 4), 1);
            edges.due("the list stays", x.now(0), 1);
            edges.due("none has told a term", x.count(3), 0);
        }
        ComeIfShe asked = new ComeIfShe();
        for (int g = 0; g < 8; g++) {
            edges.due("who would come ahead of guest " + g, asked.now(2), (1 << g) - 1);
            asked.guest(0, 0);
            edges.due("and behind", asked.now(2), (2 << g) - 1);
        }
        ComeIfShe y = Edges.party("0", "0");
        y.image();
        y.guest(3, 5);
        Edges.tell(y, 2, "0");
        y.undo();
        edges.due("a number again behind undo()", y.guest(0, 6), 2);
        edges.due("with a term not told", y.of(2, 4), 1);
    }

    private static void guestBeyond() {
        edges.says(2, "BEYOND: kind");
        edges.within("kind", Edges::empty, 0, 5, (x, kind) -> x.guest(kind, 10));
        edges.within("kind", Edges::rich, 0, 5, (x, kind) -> x.guest(kind, 10));
        edges.says(2, "cost.");
        edges.within("cost", Edges::empty, 0, 99, (x, cost) -> x.guest(0, cost));
        edges.within("cost", Edges::rich, 0, 99, (x, cost) -> x.guest(5, cost));
        edges.refused("both", Edges::rich, Edges.BEYOND, x -> x.guest(6, 100));
    }

    private static void guestFull() {
        edges.says(2, "FULL.");
        for (int kind = 0; kind < 6; kind++) {
            int asked = kind;
            edges.refused("a ninth of kind " + kind, Edges::crowd, Edges.FULL, x -> x.guest(asked, 0));
        }
        edges.refused("a ninth of cost 99", Edges::crowd, Edges.FULL, x -> x.guest(0, 99));
        edges.refused("kind ahead of FULL", Edges::crowd, Edges.BEYOND, x -> x.guest(6, 0));
        edges.refused("kind ahead of FULL", Edges::crowd, Edges.BEYOND, x -> x.guest(-1, 0));
        edges.refused("cost ahead of FULL", Edges::crowd, Edges.BEYOND, x -> x.guest(0, 100));
        edges.refused("cost ahead of FULL", Edges::crowd, Edges.BEYOND, x -> x.guest(0, -1));
        ComeIfShe x = Edges.party(null, null, null, null, null, null, null);
        x.image();
        edges.due("the eighth", x.guest(0, 0), 7);
        edges.due("the ninth", x.guest(0, 0), Edges.FULL);
        x.undo();
        edges.due("room again behind undo()", x.guest(0, 0), 7);
        edges.due("and none again", x.guest(0, 0), Edges.FULL);
    }

    private static void ofEach() {
        ComeIfShe x = Edges.eight("0");
        edges.says(3, "what 0 KIND");
        for (int kind = 0; kind < 6; kind++) {
            x.turn(7, kind);
            edges.due("kind " + kind, x.of(7, 0), kind);
        }
        x.turn(7, 0);
        edges.says(3, "1 COST");
        x.cost(7, 0);
        edges.due("the least", x.of(7, 1), 0);
        x.cost(7, 99);
        edges.due("the greatest", x.of(7, 1), 99);
        edges.says(3, "2 1 if it is on THE LIST, else 0");
        for (int g = 0; g < 8; g++) {
            x.list(1 << g);
            edges.due("alone on it, " + g, x.of(g, 2), 1);
            x.list(255 - (1 << g));
            edges.due("alone not on it, " + g, x.of(g, 2), 0);
        }
        edges.says(3, "3 1 if it WOULD come by it, else 0");
        x.list(255);
        edges.due("it wouldn't", x.of(7, 3), 0);
        x.turn(7, 1);
        edges.due("but as an eager one", x.of(7, 3), 1);
        edges.says(3, "4 1 if its TERM holds by it, else 0");
        edges.due("the term alone", x.of(7, 4), 0);
        Edges.tell(x, 6, "h");
        x.turn(6, 3);
        edges.due("it holds, though it wouldn't come", x.of(6, 4), 1);
        x.list(127);
        edges.due("by another list", x.of(6, 4), 0);
        edges.says(3, "5 how many others are on it.");
        x.list(0);
        edges.due("of nobody", x.of(7, 5), 0);
        x.list(128);
        edges.due("itself is no other", x.of(7, 5), 0);
        x.list(127);
        edges.due("all others", x.of(7, 5), 7);
        x.list(255);
        edges.due("all others and itself", x.of(7, 5), 7);
        edges.due("for the first, too", x.of(0, 5), 7);
    }

    private static void ofBeyond() {
        edges.says(3, "Of a GUEST:");
        for (int what = 0; what < 6; what++) {
            int asked = what;
            edges.guests((x, guest) -> x.of(guest, asked));
        }
        edges.says(3, "BEYOND.");
        edges.within("what", Edges::rich, 0, 5, (x, what) -> x.of(0, what));
        edges.within("what", Edges::crowd, 0, 5, (x, what) -> x.of(7, what));
        edges.refused("both", Edges::rich, Edges.BEYOND, x -> x.of(5, 6));
    }

    private static void cost() {
        edges.says(4, "COST of a GUEST becomes v: what it was.");
        ComeIfShe x = Edges.party(null, null);
        edges.due("to the greatest", x.cost(1, 99), 10);
        edges.due("to the least", x.cost(1, 0), 99);
        edges.due("to the same", x.cost(1, 0), 0);
        edges.due("it is", x.of(1, 1), 0);
        edges.due("another's stays", x.of(0, 1), 10);
        edges.says(4, "BEYOND.");
        edges.guests((y, guest) -> y.cost(guest, 5));
        edges.within("v", Edges::rich, 0, 99, (y, v) -> y.cost(4, v));
        edges.refused("both", Edges::rich, Edges.BEYOND, y -> y.cost(5, 100));
    }

    private static void turn() {
        edges.says(5, "A GUEST becomes one of another KIND: what it was.");
        ComeIfShe x = Edges.party("0", "0");
        int was = 0;
        for (int kind : new int[] {5, 0, 4, 1, 3, 2, 2}) {
            edges.due("turn to " + kind, x.turn(1, kind), was);
            edges.due("it is", x.of(1, 0), kind);
            edges.due("whether it would come", x.of(1, 3), kind == 4 || kind == 5 ? 1 : 0);
            was = kind;
        }
        edges.due("another's stays", x.of(0, 0), 0);
        edges.due("its cost stays", x.of(1, 1), 10);
        edges.due("its term stays", x.of(1, 4), 0);
        edges.says(5, "BEYOND.");
        edges.guests((y, guest) -> y.turn(guest, 3));
        edges.within("kind", Edges::rich, 0, 5, (y, kind) -> y.turn(4, kind));
        edges.refused("both", Edges::rich, Edges.BEYOND, y -> y.turn(5, 6));
    }

    private static void as() {
        edges.says(6, "A GUEST as one of a kind: COST.");
        String[] under = {"100000", "110000", "101000", "100100", "110010", "101001"};
        for (int own = 0; own < 6; own++) {
            int kindOf = own;
            for (int kind = 0; kind < 6; kind++) {
                int asked = kind;
                Edges.History one = x -> x.guest(kindOf, 99 * (kindOf % 2));
                if (under[own].charAt(kind) == '1') {
                    edges.says(6, "A GUEST as one of a kind: COST.");
                    edges.due(own + " as " + kind, Edges.after(one).as(0, kind), 99 * (own % 2));
                } else {
                    edges.says(6, "KIND: it isn't of that kind, nor of one under it.");
                    edges.refused(own + " as " + kind, one, Edges.KIND, x -> x.as(0, asked));
                }
            }
        }
        edges.says(6, "BEYOND: no such one");
        edges.guests((x, guest) -> x.as(guest, 0));
        edges.refused("ahead of KIND", Edges::rich, Edges.BEYOND, x -> x.as(5, 5));
        edges.says(6, ", kind.");
        edges.within("kind", Edges::rich, 0, 5, (x, kind) -> x.as(0, kind));
        edges.refused("both", Edges::rich, Edges.BEYOND, x -> x.as(5, 6));
    }

    private static void termTold() {
        edges.says(7, "THE TAPE is the TERM of a GUEST, and empty then: 1.");
        ComeIfShe x = Edges.eight("0");
        edges.due("one byte", Edges.tell(x, 7, "1"), 1);
        edges.due("empty then", x.count(1), 0);
        edges.due("it holds", x.of(7, 4), 1);
        edges.due("no other's", x.now(2), 128);
        edges.due("another one", Edges.tell(x, 7, "0"), 1);
        edges.due("nobody would come now", x.now(2), 0);
        edges.due("sixty bytes", Edges.tell(x, 0, Edges.sixty()), 1);
        edges.due("empty then", x.count(1), 0);
        edges.due("it holds", x.of(0, 4), 1);
        x.list(2);
        edges.due("or not", x.of(0, 4), 0);
        edges.due("in place of the one told before", Edges.tell(x, 0, "b"), 1);
        edges.due("it holds", x.of(0, 4), 1);
        edges.due("nothing more to tell", x.term(0), -1);
        edges.due("the term stays", x.of(0, 4), 1);
    }

    private static void termBeyond() {
        edges.says(7, "BEYOND (THE TAPE stays).");
        edges.guests((x, guest) -> x.term(guest));
        ComeIfShe x = new ComeIfShe();
        Edges.fed(x, "!b");
        edges.due("of no guests", x.term(0), Edges.BEYOND);
        edges.due("the tape stays", x.count(1), 2);
        x.guest(0, 0);
        edges.due("one below", x.term(-1), Edges.BEYOND);
        edges.due("one above", x.term(1), Edges.BEYOND);
        edges.due("and is a term", x.term(0), 1);
        Edges.History broken = y -> {
            Edges.rich(y);
            Edges.fed(y, "|");
        };
        edges.refused("BEYOND ahead of a FAULT", broken, Edges.BEYOND, y -> y.term(5));
    }

    private static void termFault() {
        edges.says(7, "With a FAULT: -1 less its place (nothing changes but that THE TAPE is empty; no finding).");
        fault("", 0);
        fault("|", 0);
        fault("ab", 1);
        fault("a|", 2);
        fault("n>1|", 4);
        fault("1" + "&1".repeat(29) + "1", 59);
        fault("1" + "&1".repeat(29) + "|", 60);
        fault("(" + "1&".repeat(29) + "1", 60);
    }

    private static void fault(String text, int place) {
        Edges.History wiped = x -> {
            Edges.rich(x);
            x.wipe();
        };
        Edges.History told = x -> {
            wiped.on(x);
            Edges.fed(x, text);
            x.term(2);
        };
        edges.alike("fault of " + text, wiped, told);
        ComeIfShe x = Edges.after(wiped);
        Edges.fed(x, text);
        int findings = x.status(-1);
        edges.due("fault of " + text, x.term(2), -1 - place);
        edges.due("the tape is empty", x.count(1), 0);
        edges.due("no finding", x.status(-1), findings);
    }

    private static void feedBytes() {
        edges.says(8, "THE TAPE gets the n lowest bytes of a number behind it");
        int junk = 0x7F7F7F00;
        edges.due("one", fedThenTold(junk | 'b', 1), 1);
        edges.due("two", fedThenTold(junk << 8 | '!' << 8 | 'b', 2), 1);
        edges.due("three", fedThenTold(junk << 16 | 'n' << 16 | '>' << 8 | '4', 3), 1);
        edges.due("four", fedThenTold('b' << 24 | '&' << 16 | '!' << 8 | 'a', 4), 1);
        edges.due("a byte above 127 is none below it", fedThenTold(0x80 | 'b', 1), -1);
        edges.due("a number below 0", fedThenTold(-1, 1), -1);
        edges.due("a number below 0, its lowest byte", fedThenTold(Edges.MIN | 'b', 1), 1);
        ComeIfShe y = Edges.party((String) null);
        y.feed('0', 1);
        y.feed('|', 1);
        y.feed('1', 1);
        edges.due("behind what there is", y.term(0), 1);
        edges.due("so it holds", y.of(0, 4), 1);
        edges.says(8, ", the highest of these first");
        ComeIfShe x = Edges.party((String) null);
        x.feed('n' << 16 | '=' << 8 | '0', 3);
        edges.due("n=0, not 0=n", x.term(0), 1);
        x.feed('0' << 16 | '=' << 8 | 'n', 3);
        edges.due("0=n", x.term(0), -2);
    }

    private static int fedThenTold(int bytes, int n) {
        ComeIfShe x = Edges.party((String) null);
        edges.due("fed", x.feed(bytes, n), n);
        return x.term(0);
    }

    private static void feedBeyond() {
        edges.says(8, "(n 1 to 4)");
        edges.within("n", Edges::empty, 1, 4, (x, n) -> x.feed('a', n));
        edges.says(8, "BEYOND: n.");
        edges.within("n", Edges::rich, 1, 4, (x, n) -> x.feed('a', n));
        edges.refused("n 5", Edges::crowd, Edges.BEYOND, x -> x.feed('a', 5));
        edges.refused("n 0", Edges::crowd, Edges.BEYOND, x -> x.feed('a', 0));
        edges.says(8, ": how many it has.");
        ComeIfShe x = new ComeIfShe();
        int has = 0;
        for (int n = 1; n <= 4; n++) {
            has += n;
            edges.due("n " + n, x.feed('a', n), has);
        }
        edges.due("as many as count(1)", x.count(1), has);
    }

    private static void feedFull() {
        edges.says(8, "FULL.");
        for (int room = 0; room < 4; room++) {
            int left = room;
            Edges.History almost = x -> {
                Edges.rich(x);
                x.wipe();
                Edges.fed(x, Edges.sixty().substring(left));
            };
            for (int n = room + 1; n <= 4; n++) {
                int more = n;
                edges.refused(n + " to a room of " + room, almost, Edges.FULL, x -> x.feed('a', more));
            }
            if (room > 0) {
                edges.due("just as many as there is room for", Edges.after(almost).feed('a', room), 60);
            }
        }
        ComeIfShe x = Edges.after(Edges::crowd);
        edges.due("to a full one", x.feed('a', 1), Edges.FULL);
        edges.due("which is a term still", x.term(0), 1);
        edges.due("then there is room", x.feed('a', 4), 4);
    }

    private static void wipe() {
        edges.says(9, "THE TAPE is empty: how many it had.");
        ComeIfShe x = Edges.party((String) null);
        edges.due("of an empty one", x.wipe(), 0);
        x.feed('a', 1);
        edges.due("of one", x.wipe(), 1);
        Edges.fed(x, Edges.sixty());
        edges.due("of a full one", x.wipe(), 60);
        edges.due("again", x.wipe(), 0);
        edges.due("count(1)", x.count(1), 0);
        edges.due("nothing is left to be a term", x.term(0), -1);
        Edges.fed(x, Edges.sixty());
        x.wipe();
        edges.due("room for sixty again", Edges.fed(x, Edges.sixty()), 60);
        Edges.History wiped = y -> {
            Edges.rich(y);
            y.wipe();
        };
        Edges.History again = y -> {
            wiped.on(y);
            y.wipe();
        };
        edges.alike("an empty one wiped", wiped, again);
    }
}
