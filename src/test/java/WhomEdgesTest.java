/** The edges that promises 25 to 32 name: whom to get, who spoils it. */
public final class WhomEdgesTest {
    private static final Edges edges = new Edges(25, 32);

    public static void main(String[] args) {
        last();
        buys();
        buysOfSeveral();
        price();
        spoils();
        invites();
        invitesSettled();
        invitesBeyond();
        against();
        againstBeyond();
        minds();
        kind();
        edges.end();
    }

    private static void last() {
        edges.says(25, "LAST by a set BOUGHT.");
        edges.due("of nobody", new ComeIfShe().last(0), 0);
        ComeIfShe x = Edges.eight("0");
        for (int set = 0; set < 256; set++) {
            edges.due("nobody else comes", x.last(set), set);
        }
        ComeIfShe all = Edges.eight("1");
        edges.due("nobody bought, all come", all.last(0), 255);
        edges.due("all bought", all.last(255), 255);
        all.turn(7, 3);
        edges.due("who never comes", all.last(0), 127);
        edges.due("but bought", all.last(128), 255);
        edges.due("just 64 rounds", Edges.party(Edges.counting()).last(0), 64);
        edges.due("and 64 by twos, if guest 0 is bought", Edges.party(Edges.counting()).last(1), 129);
        edges.due("64 rounds of three", Edges.party("!a&!b", "a", "b").last(0), 1);
        ComeIfShe now = Edges.eight("*");
        now.list(255);
        edges.due("from nobody on", now.last(0), 0);
        edges.due("but those bought", now.last(130), 130);
        edges.onlyAsks("last(0)", y -> y.last(0));
        edges.says(25, "BEYOND: set.");
        edges.sets((y, set) -> y.last(set));
    }

    private static void buys() {
        edges.says(26, "The set BOUGHT with the least COSTS together so that LAST has m (0 to 8) or more");
        ComeIfShe x = Edges.eight("0");
        for (int m = 0; m <= 8; m++) {
            edges.due("m " + m, x.buys(m), (1 << m) - 1);
        }
        for (int g = 0; g < 8; g++) {
            x.cost(g, 80 - 10 * g);
        }
        edges.due("none", x.buys(0), 0);
        edges.due("the cheapest", x.buys(1), 128);
        edges.due("all but the dearest", x.buys(7), 254);
        edges.due("all", x.buys(8), 255);
        edges.due("nobody must be bought", Edges.eight("1").buys(8), 0);
        ComeIfShe more = Edges.eight("a");
        edges.due("m or more: two come to eight", more.buys(2), 1);
        edges.due("eight", more.buys(8), 1);
        more.cost(0, 99);
        edges.due("one, the cheapest", more.buys(1), 2);
        edges.due("seven, all but the dear one", more.buys(7), 254);
        edges.due("eight at any price", more.buys(8), 1);
        edges.onlyAsks("buys(3)", y -> y.buys(3));
        edges.says(26, "BEYOND.");
        edges.within("m", Edges::empty, 0, 8, (y, m) -> y.buys(m));
        edges.within("m", Edges::rich, 0, 8, (y, m) -> y.buys(m));
        edges.within("m", Edges::crowd, 0, 8, (y, m) -> y.buys(m));
        edges.says(26, "NONE.");
        edges.refused("more than none", Edges::empty, Edges.NONE, y -> y.buys(1));
        edges.refused("eight of none", Edges::empty, Edges.NONE, y -> y.buys(8));
        edges.refused("six of five", Edges::rich, Edges.NONE, y -> y.buys(6));
        edges.refused("eight of five", Edges::rich, Edges.NONE, y -> y.buys(8));
        edges.due("five of five", Edges.after(Edges::rich).buys(5) >= 0 ? 1 : 0, 1);
    }

    private static void buysOfSeveral() {
        edges.says(26, "; of several fewest, then the least.");
        ComeIfShe x = Edges.party("0", "0", "0", "c");
        x.cost(0, 2);
        x.cost(1, 2);
        x.cost(2, 4);
        edges.due("one for 4, not two for 2 each", x.buys(2), 4);
        ComeIfShe free = Edges.eight("0");
        for (int g = 0; g < 8; g++) {
            free.cost(g, 0);
        }
        edges.due("for nothing: nobody", free.buys(0), 0);
        edges.due("for nothing: the first", free.buys(1), 1);
        edges.due("for nothing: seven", free.buys(7), 127);
        edges.due("as dear, as few: the least", Edges.party("0", "0").buys(1), 1);
    }

    private static void price() {
        edges.says(27, "What that costs.");
        ComeIfShe x = Edges.eight("0");
        edges.due("nobody", x.price(0), 0);
        edges.due("one", x.price(1), 10);
        for (int g = 0; g < 8; g++) {
            x.cost(g, 99);
        }
        edges.due("the dearest of all", x.price(8), 792);
        for (int g = 0; g < 8; g++) {
            x.cost(g, 0);
        }
        edges.due("for nothing", x.price(8), 0);
        edges.due("of nobody", new ComeIfShe().price(0), 0);
        edges.onlyAsks("price(3)", y -> y.price(3));
        edges.says(27, "BEYOND.");
        edges.within("m", Edges::empty, 0, 8, (y, m) -> y.price(m));
        edges.within("m", Edges::rich, 0, 8, (y, m) -> y.price(m));
        edges.within("m", Edges::crowd, 0, 8, (y, m) -> y.price(m));
        edges.says(27, "NONE.");
        edges.refused("more than none", Edges::empty, Edges.NONE, y -> y.price(1));
        edges.refused("six of five", Edges::rich, Edges.NONE, y -> y.price(6));
        edges.refused("eight of five", Edges::rich, Edges.NONE, y -> y.price(8));
    }

    private static void spoils() {
        edges.says(28, "The one who, KEPT OUT (nobody being BOUGHT), lets LAST have fewest");
        edges.due("one alone", Edges.party("1").spoils(), 0);
        edges.due("the last of eight", Edges.party("h", "h", "h", "h", "h", "h", "h", "1").spoils(), 7);
        edges.due("the first of eight", Edges.eight("a|n=0").spoils(), 0);
        ComeIfShe shunned = Edges.party("1", "!a", "!a", "!a");
        edges.due("one who keeps three away is none", shunned.spoils(), 1);
        ComeIfShe now = Edges.party("a", "1");
        now.list(3);
        edges.due("from nobody on", now.spoils(), 1);
        edges.onlyAsks("spoils()", y -> y.spoils());
        edges.says(28, "; of several the least.");
        edges.due("all alike", Edges.eight("1").spoils(), 0);
        edges.due("nobody comes anyway", Edges.eight("0").spoils(), 0);
        edges.due("the second and the third", Edges.party("0", "1", "1").spoils(), 1);
        edges.says(28, "NONE: there are no GUESTS.");
        edges.refused("of nobody", Edges::empty, Edges.NONE, y -> y.spoils());
    }

    private static void invites() {
        edges.says(29, "The set of GUESTS who are asked (all others KEPT OUT, nobody BOUGHT), so that LAST has from a to b");
        ComeIfShe x = Edges.eight("1");
        for (int n = 0; n <= 8; n++) {
            edges.due("just " + n, x.invites(n, n), (1 << n) - 1);
            edges.due("from " + n + " to 8", x.invites(n, 8), (1 << n) - 1);
            edges.due("from 0 to " + n, x.invites(0, n), 0);
        }
        edges.due("of nobody", new ComeIfShe().invites(0, 0), 0);
        edges.due("of nobody", new ComeIfShe().invites(0, 8), 0);
        ComeIfShe brother = Edges.party("1", "!a", "1");
        edges.due("without his brother", brother.invites(2, 2), 5);
        edges.due("one of two", Edges.party("1", "!a").invites(1, 1), 1);
        edges.onlyAsks("invites(1, 3)", y -> y.invites(1, 3));
        edges.says(29, "; the one with fewest, then the least.");
        edges.due("four, not three", Edges.party("0", "0", "1").invites(1, 1), 4);
        edges.due("one, the least", Edges.party("0", "1", "1").invites(1, 2), 2);
        edges.due("two, the least", Edges.party("1", "0", "1", "1").invites(2, 8), 5);
        edges.due("one, though two are the least", Edges.party("!a|b", "a|b", "1").invites(1, 2), 4);
        // Of 2, 3 and 4 only 2 comes in the end, of 0 and 1 both do, and fewer never settle.
        ComeIfShe crossed = Edges.party("!a|b", "a|b", "c|d&e", "!d&n=0", "!e&n=0");
        edges.due("three make one come", crossed.invites(1, 1), 28);
        edges.due("fewest asked, not fewest who come", crossed.invites(1, 2), 3);
    }

    private static void invitesSettled() {
        edges.says(29, "and is SETTLED for those who are asked");
        Edges.History ring = x -> Edges.invite(x, "!a&!b", "a", "b");
        edges.due("64 rounds of three have one on", Edges.after(ring).last(0), 1);
        edges.refused("which isn't settled", ring, Edges.NONE, x -> x.invites(1, 8));
        edges.due("but nobody is", Edges.after(ring).invites(0, 0), 0);
        edges.refused("nor is one who changes its mind for ever", x -> Edges.invite(x, "!a"), Edges.NONE,
            x -> x.invites(1, 1));
        edges.due("who isn't asked need not agree", Edges.party("0", "!b", "1").invites(1, 1), 4);
        edges.due("who would come, but isn't asked", Edges.party("1", "1").invites(1, 1), 1);
    }

    private static void invitesBeyond() {
        edges.says(29, "(0 to 8, a not above b)");
        edges.within("a", Edges::empty, 0, 8, (x, a) -> x.invites(a, 8));
        edges.within("a", Edges::rich, 0, 8, (x, a) -> x.invites(a, 8));
        edges.within("b", Edges::empty, 0, 8, (x, b) -> x.invites(0, b));
        edges.within("b", Edges::rich, 0, 8, (x, b) -> x.invites(0, b));
        edges.within("both", Edges::crowd, 0, 8, (x, both) -> x.invites(both, both));
        for (int a = 1; a <= 8; a++) {
            int above = a;
            edges.refused("one above the other", Edges::rich, Edges.BEYOND, x -> x.invites(above, above - 1));
        }
        edges.says(29, "BEYOND.");
        edges.refused("8 to 0", Edges::crowd, Edges.BEYOND, x -> x.invites(8, 0));
        edges.refused("-1 to 9", Edges::crowd, Edges.BEYOND, x -> x.invites(-1, 9));
        edges.refused("MIN to MAX", Edges::crowd, Edges.BEYOND, x -> x.invites(Edges.MIN, Edges.MAX));
        edges.refused("9 to 9, of none", Edges::empty, Edges.BEYOND, x -> x.invites(9, 9));
        edges.says(29, "NONE.");
        edges.refused("one of none", Edges::empty, Edges.NONE, x -> x.invites(1, 8));
        edges.refused("six of five", Edges::rich, Edges.NONE, x -> x.invites(6, 8));
        edges.refused("one who never comes", x -> Edges.invite(x, "0"), Edges.NONE, x -> x.invites(1, 1));
        Edges.History both = x -> Edges.invite(x, "!a|b", "a|b");
        edges.refused("just one, who needs the other", both, Edges.NONE, x -> x.invites(1, 1));
        edges.due("two", Edges.after(both).invites(1, 2), 3);
    }

    private static void against() {
        edges.says(30, "Whether two go against each other: whether some LIST is SETTLED with the one, some with the other");
        ComeIfShe x = Edges.party("!b", "!a", "1", "0");
        edges.due("with the one, with the other", x.against(0, 1), 1);
        edges.due("the other way round", x.against(1, 0), 1);
        edges.due("none with the other", x.against(0, 3), 0);
        edges.due("none with the one", x.against(3, 0), 0);
        edges.due("none settled at all", Edges.party("!b", "a").against(0, 1), 0);
        edges.says(30, ", none with both: 1, 0.");
        edges.due("with both", x.against(0, 2), 0);
        edges.due("with each, with both, too", Edges.party("a", "b").against(0, 1), 0);
        ComeIfShe far = Edges.party("!h", "0", "0", "0", "0", "0", "0", "!a");
        edges.due("the first and the last", far.against(0, 7), 1);
        edges.due("the last and the first", far.against(7, 0), 1);
        edges.onlyAsks("against(0, 1)", y -> y.against(0, 1));
    }

    private static void againstBeyond() {
        edges.says(30, "BEYOND: also one and the same.");
        edges.guests((x, one) -> x.against(one, one == 0 ? 1 : 0));
        edges.guests((x, other) -> x.against(other == 0 ? 1 : 0, other));
        for (int v : new int[] {0, 1, 4}) {
            edges.refused("one and the same of five", Edges::rich, Edges.BEYOND, x -> x.against(v, v));
        }
        edges.refused("one and the same of eight", Edges::crowd, Edges.BEYOND, x -> x.against(7, 7));
        edges.refused("two that there aren't", Edges::rich, Edges.BEYOND, x -> x.against(5, 6));
        edges.refused("one alone and itself", x -> Edges.invite(x, "a"), Edges.BEYOND, x -> x.against(0, 0));
    }

    private static void minds() {
        edges.says(31, "GUESTS for whom it counts whether one is on a LIST: who WOULD come by some LIST with it and not by that without it");
        edges.due("nobody minds", Edges.eight("1").minds(0), 0);
        edges.due("all others mind", Edges.eight("h").minds(7), 127);
        edges.due("none but the one", Edges.eight("h").minds(6), 0);
        edges.due("by the full list alone", Edges.eight("n=7").minds(3), 255 - 8);
        edges.due("by the empty list alone", Edges.eight("n=0").minds(3), 255 - 8);
        edges.due("by one in between", Edges.party("b&!c&d", null, null, null).minds(1), 1);
        ComeIfShe eager = Edges.party("0", null, null, null);
        eager.turn(0, 1);
        edges.due("never four others of four", eager.minds(1), 0);
        eager.guest(0, 0);
        edges.due("four others of five", eager.minds(1), 1);
        ComeIfShe shy = Edges.party(null, null, null, null, null);
        shy.turn(0, 2);
        edges.due("never five others of five", shy.minds(1), 0);
        shy.guest(0, 0);
        edges.due("five others of six", shy.minds(1), 1);
        ComeIfShe never = Edges.party("b", null);
        never.turn(0, 3);
        edges.due("who never comes minds nobody", never.minds(1), 0);
        edges.says(31, ", or the other way round");
        edges.due("who comes without it", Edges.eight("!h").minds(7), 127);
        edges.says(31, "(others than itself), as a set.");
        edges.due("itself is none", Edges.eight("*").minds(7), 0);
        edges.due("itself is none", Edges.party("!a").minds(0), 0);
        ComeIfShe now = Edges.eight("0");
        now.list(255);
        edges.due("whatever the list", now.minds(0), 0);
        edges.onlyAsks("minds(0)", y -> y.minds(0));
        edges.says(31, "BEYOND.");
        edges.guests((x, guest) -> x.minds(guest));
    }

    private static void kind() {
        edges.says(32, "The KIND as one of which a GUEST lets most LISTS be SETTLED");
        edges.due("GUEST", Edges.party("a").kind(0), 0);
        edges.due("NEVER", Edges.party("1", "!b&a").kind(0), 3);
        edges.due("SULKY", Edges.party("!a").kind(0), 5);
        ComeIfShe eager = Edges.party("0", "a&n>3", "a&n>3", "a&n>3", "a&n>3");
        edges.due("EAGER: all or nobody", eager.kind(0), 1);
        ComeIfShe host = Edges.party("0", "!a&!b");
        edges.due("HOST: it comes, so that the other needn't", host.kind(0), 4);
        ComeIfShe shy = Edges.party("1", "b", "c", "d", "e", "f", "!g&(a&b&c&d&e&f|!a&!(b&c&d&e&f))");
        edges.due("SHY: it comes with four, not with five", shy.kind(0), 2);
        edges.due("its kind stays", host.of(0, 0), 0);
        edges.onlyAsks("kind(0)", y -> y.kind(0));
        edges.says(32, "; of several the least.");
        edges.due("all alike but two", Edges.party("1").kind(0), 0);
        ComeIfShe own = Edges.party("1");
        own.turn(0, 4);
        edges.due("its own counts no more than others", own.kind(0), 0);
        edges.due("no kind lets any be settled", Edges.party("0", "!b").kind(0), 0);
        edges.says(32, "BEYOND.");
        edges.guests((x, guest) -> x.kind(guest));
    }
}
