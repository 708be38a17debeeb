/** The edges that promises 16 to 24 name: what settles, in how many rounds or calls. */
public final class SettleEdgesTest {
    private static final Edges edges = new Edges(16, 24);
    private static final String[] NEVER_SETTLED = {"!b", "a"};

    public static void main(String[] args) {
        when();
        ring();
        fewest();
        first();
        settled();
        ith();
        sure();
        sureOfNone();
        basin();
        oddsOfAll();
        oddsBeyond();
        edges.end();
    }

    private static void when() {
        edges.says(16, "In how many ROUNDS (0 to 256) THE LIST is SETTLED first.");
        edges.due("of nobody", new ComeIfShe().when(), 0);
        ComeIfShe x = Edges.party(Edges.countingTillFull(0));
        edges.due("the longest way of all", x.when(), 255);
        x.list(1);
        edges.due("one less", x.when(), 254);
        x.list(254);
        edges.due("one", x.when(), 1);
        x.list(255);
        edges.due("settled already", x.when(), 0);
        edges.onlyAsks("when()", y -> y.when());
        edges.says(16, "NONE: it never settles.");
        refusesNone("a ring of two", y -> y.when(), "!a");
        refusesNone("a ring of four", y -> y.when(), NEVER_SETTLED);
        refusesNone("a ring of all lists", y -> y.when(), Edges.counting());
        refusesNone("a ring of two behind 254", y -> y.when(), Edges.countingTillFull(1));
        refusesNone("a list that is settled, but off the way", y -> y.when(), "!b", "!a");
    }

    private static void refusesNone(String what, Edges.Act act, String... terms) {
        edges.refused(what, x -> Edges.invite(x, terms), Edges.NONE, act);
    }

    private static void ring() {
        ComeIfShe nobody = new ComeIfShe();
        ComeIfShe stays = Edges.party(Edges.countingTillFull(0));
        ComeIfShe all = Edges.party(Edges.counting());
        ComeIfShe two = Edges.party(Edges.countingTillFull(1));
        edges.says(17, "ROUNDS come round again: what 0 in how many of them it comes to a LIST first that comes again");
        edges.due("of nobody", nobody.ring(0), 0);
        edges.due("the longest way of all", stays.ring(0), 255);
        edges.due("none ahead of a ring of all", all.ring(0), 0);
        edges.due("254 ahead of a ring of two", two.ring(0), 254);
        two.list(255);
        edges.due("on the ring already", two.ring(0), 0);
        two.list(253);
        edges.due("one ahead", two.ring(0), 1);
        edges.says(17, "1 in how many more that comes again (1: it is SETTLED).");
        edges.due("of nobody", nobody.ring(1), 1);
        edges.due("settled in the end", stays.ring(1), 1);
        edges.due("the longest ring of all", all.ring(1), 256);
        edges.due("two", two.ring(1), 2);
        all.list(255);
        edges.due("from the last list on", all.ring(1), 256);
        edges.onlyAsks("ring(0)", y -> y.ring(0));
        edges.onlyAsks("ring(1)", y -> y.ring(1));
        edges.says(17, "BEYOND.");
        edges.within("what", Edges::empty, 0, 1, (y, what) -> y.ring(what));
        edges.within("what", Edges::rich, 0, 1, (y, what) -> y.ring(what));
    }

    private static void fewest() {
        edges.says(18, "The fewest CALLS, of whom one likes, by which THE LIST is SETTLED.");
        edges.due("of nobody", new ComeIfShe().fewest(), 0);
        edges.due("settled already", Edges.eight("*").fewest(), 0);
        edges.due("one", Edges.party("!b", "!a").fewest(), 1);
        edges.due("each once", Edges.eight("1").fewest(), 8);
        ComeIfShe chain = Edges.party("b", "c", "d", "e", "f", "g", "h", "1");
        edges.due("a chain backwards", chain.fewest(), 8);
        ComeIfShe leave = Edges.eight("0");
        leave.list(255);
        edges.due("each once, till nobody is left", leave.fewest(), 8);
        edges.onlyAsks("fewest()", y -> y.fewest());
        for (int from = 0; from < 256; from += 64) {
            ComeIfShe x = Edges.party(Edges.grayCode());
            for (int k = from; k < from + 64; k++) {
                x.list(k ^ k >> 1);
                edges.due("the longest row of all, from list " + k + " of it", x.fewest(), 255 - k);
            }
        }
        edges.says(18, "NONE.");
        refusesNone("none settled", y -> y.fewest(), NEVER_SETTLED);
        refusesNone("one settled that no calls lead to", y -> y.fewest(), "c|!b", "a", "c");
        edges.due("there is one", Edges.party("c|!b", "a", "c").settled(), 1);
    }

    private static void first() {
        edges.says(19, "The first one who is called in the first row of so few CALLS (by numbers, the least first).");
        edges.due("of two the least", Edges.party("!b", "!a").first(), 0);
        edges.due("of eight the least", Edges.eight("1").first(), 0);
        edges.due("the greatest of all", Edges.party("b", "c", "d", "e", "f", "g", "h", "1").first(), 7);
        edges.due("not one whose call leads elsewhere", Edges.party("!b", "1").first(), 1);
        edges.due("nor one who changes nothing", Edges.party("0", "1").first(), 1);
        ComeIfShe leave = Edges.eight("0");
        leave.list(192);
        edges.due("of two who leave the least, till nobody is left", leave.first(), 6);
        edges.onlyAsks("first()", y -> y.first());
        for (int from = 0; from < 256; from += 64) {
            ComeIfShe x = Edges.party(Edges.grayCode());
            for (int k = from; k < Math.min(255, from + 64); k++) {
                x.list(k ^ k >> 1);
                edges.due("in the longest row of all, at list " + k, x.first(), Integer.numberOfTrailingZeros(k + 1));
            }
        }
        edges.says(19, "NONE: it is SETTLED");
        edges.refused("of nobody", Edges::empty, Edges.NONE, y -> y.first());
        refusesNone("nobody comes", y -> y.first(), "0", "0");
        Edges.History full = x -> {
            Edges.invite(x, Edges.countingTillFull(0));
            x.list(255);
        };
        edges.refused("all come", full, Edges.NONE, y -> y.first());
        edges.says(19, ", or there is none.");
        refusesNone("none settled", y -> y.first(), NEVER_SETTLED);
        refusesNone("one settled that no calls lead to", y -> y.first(), "c|!b", "a", "c");
    }

    private static void settled() {
        edges.says(20, "LISTS that are SETTLED: how many.");
        edges.due("of nobody: the empty list", new ComeIfShe().settled(), 1);
        edges.due("none", Edges.party(NEVER_SETTLED).settled(), 0);
        edges.due("none of 256", Edges.party(Edges.counting()).settled(), 0);
        edges.due("all 256", Edges.eight("*").settled(), 256);
        edges.due("the full list alone", Edges.eight("1").settled(), 1);
        edges.due("lists with those who aren't guests count not", Edges.party("a", "b").settled(), 4);
        edges.onlyAsks("settled()", y -> y.settled());
    }

    private static void ith() {
        edges.says(21, "The i-th of them (0: the least).");
        edges.due("of nobody", new ComeIfShe().ith(0), 0);
        ComeIfShe all = Edges.eight("*");
        for (int i = 0; i < 256; i++) {
            edges.due("of all", all.ith(i), i);
        }
        ComeIfShe most = Edges.eight("n=7|*");
        edges.due("the last ahead of one that isn't", most.ith(126), 126);
        edges.due("the next behind it", most.ith(127), 128);
        edges.due("the greatest of 248", most.ith(247), 255);
        edges.due("no more than 248", most.ith(248), Edges.NONE);
        edges.due("the full list alone", Edges.eight("1").ith(0), 255);
        edges.onlyAsks("ith(0)", y -> y.ith(0));
        edges.says(21, "BEYOND: i below 0.");
        Edges.History none = x -> Edges.invite(x, NEVER_SETTLED);
        for (Edges.History history : new Edges.History[] {Edges::empty, Edges::rich, Edges::crowd, none}) {
            edges.refused("i -1", history, Edges.BEYOND, x -> x.ith(-1));
            edges.refused("i MIN", history, Edges.BEYOND, x -> x.ith(Edges.MIN));
        }
        edges.says(21, "NONE.");
        edges.refused("of one the second", Edges::empty, Edges.NONE, x -> x.ith(1));
        edges.refused("of one the last that there can be", Edges::empty, Edges.NONE, x -> x.ith(Edges.MAX));
        edges.refused("of none the first", none, Edges.NONE, x -> x.ith(0));
        edges.refused("of none the last that there can be", none, Edges.NONE, x -> x.ith(Edges.MAX));
        Edges.History each = x -> Edges.invite(x, "a", "b", "c", "d", "e", "f", "g", "h");
        edges.refused("of 256 the next", each, Edges.NONE, x -> x.ith(256));
    }

    private static void sure() {
        ComeIfShe nobody = new ComeIfShe();
        ComeIfShe all = Edges.eight("*");
        ComeIfShe full = Edges.eight("1");
        ComeIfShe empty = Edges.eight("0");
        edges.says(22, "What 0 those who are on all of them, as a set");
        edges.due("of nobody", nobody.sure(0), 0);
        edges.due("of all lists", all.sure(0), 0);
        edges.due("of the full one", full.sure(0), 255);
        edges.due("of the empty one", empty.sure(0), 0);
        edges.says(22, "1 on one of them at least");
        edges.due("of nobody", nobody.sure(1), 0);
        edges.due("of all lists", all.sure(1), 255);
        edges.due("of the full one", full.sure(1), 255);
        edges.due("of two of whom one comes", Edges.party("!b", "!a").sure(1), 3);
        edges.due("of the empty one", empty.sure(1), 0);
        edges.says(22, "2 the greatest number on one");
        edges.due("of nobody", nobody.sure(2), 0);
        edges.due("of all lists", all.sure(2), 8);
        edges.due("of the full one", full.sure(2), 8);
        edges.due("of the empty one", empty.sure(2), 0);
        edges.says(22, "3 the least.");
        edges.due("of nobody", nobody.sure(3), 0);
        edges.due("of all lists", all.sure(3), 0);
        edges.due("of the full one", full.sure(3), 8);
        edges.due("of the empty one", empty.sure(3), 0);
    }

    private static void sureOfNone() {
        Edges.History none = x -> Edges.invite(x, NEVER_SETTLED);
        edges.says(22, "BEYOND.");
        edges.within("what", Edges::empty, 0, 3, (x, what) -> x.sure(what));
        edges.within("what", Edges::rich, 0, 3, (x, what) -> x.sure(what));
        edges.within("what, with none", none, 0, 3, (x, what) -> x.sure(what));
        edges.says(22, "NONE: there are none.");
        for (int what = 0; what < 4; what++) {
            int asked = what;
            edges.refused("what " + what, none, Edges.NONE, x -> x.sure(asked));
            edges.onlyAsks("sure(" + what + ")", x -> x.sure(asked));
        }
    }

    private static void basin() {
        edges.says(23, "From how many LISTS ROUNDS come to a SETTLED one.");
        edges.due("of nobody", new ComeIfShe().basin(), 1);
        edges.due("none of 256", Edges.party(Edges.counting()).basin(), 0);
        edges.due("none behind 254 rounds", Edges.party(Edges.countingTillFull(1)).basin(), 0);
        edges.due("all 256, by 255 rounds", Edges.party(Edges.countingTillFull(0)).basin(), 256);
        edges.due("all 256, each by itself", Edges.eight("*").basin(), 256);
        edges.due("two of four", Edges.party("!b", "!a").basin(), 2);
        edges.onlyAsks("basin()", y -> y.basin());
    }

    private static void oddsOfAll() {
        edges.says(24, "By lot, each LIST as likely: the odds that ROUNDS from it come to one on which a GUEST is, SETTLED");
        ComeIfShe one = Edges.eight("n=7&*");
        edges.due("one of 256", one.odds(7, 0), 1);
        edges.due("by 256", one.odds(7, 1), 256);
        edges.due("never settled: none", Edges.party(Edges.counting()).odds(7, 0), 0);
        ComeIfShe any = Edges.eight("a|b|c|d|e|f|g|h");
        edges.due("255 of 256", any.odds(0, 0), 255);
        edges.due("by 256", any.odds(0, 1), 256);
        edges.due("by 255 rounds", Edges.party(Edges.countingTillFull(0)).odds(7, 0), 1);
        edges.says(24, ": a part of a fraction in lowest terms: above (part 0), below the line (1; 0 is 0 by 1).");
        ComeIfShe each = Edges.eight("*");
        edges.due("128 of 256: 1", each.odds(3, 0), 1);
        edges.due("by 2", each.odds(3, 1), 2);
        ComeIfShe sure = Edges.eight("1");
        edges.due("256 of 256: 1", sure.odds(7, 0), 1);
        edges.due("by 1", sure.odds(7, 1), 1);
        ComeIfShe none = Edges.eight("0");
        edges.due("0 of 256: 0", none.odds(7, 0), 0);
        edges.due("by 1", none.odds(7, 1), 1);
        ComeIfShe three = Edges.party("a|b", "b");
        edges.due("3 of 4", three.odds(0, 0), 3);
        edges.due("by 4", three.odds(0, 1), 4);
        ComeIfShe alone = Edges.party("0");
        edges.due("0 of 2: 0", alone.odds(0, 0), 0);
        edges.due("by 1", alone.odds(0, 1), 1);
    }

    private static void oddsBeyond() {
        edges.says(24, "BEYOND.");
        edges.guests((x, guest) -> x.odds(guest, 0));
        edges.guests((x, guest) -> x.odds(guest, 1));
        edges.within("part", Edges::rich, 0, 1, (x, part) -> x.odds(0, part));
        edges.within("part", Edges::crowd, 0, 1, (x, part) -> x.odds(7, part));
        edges.refused("both", Edges::rich, Edges.BEYOND, x -> x.odds(5, 2));
        edges.onlyAsks("odds(0, 1)", x -> x.odds(0, 1));
    }
}
