/** The edges that promises 39 to 43 name: images, counts, status. */
public final class ImageEdgesTest {
    private static final Edges edges = new Edges(39, 43);

    public static void main(String[] args) {
        image();
        undo();
        undoStays();
        undoNone();
        tear();
        count();
        statusOfEach();
        statusEver();
        statusBeyond();
        edges.end();
    }

    /** Changes all that section 1 tells of. */
    private static void change(ComeIfShe x) {
        x.wipe();
        x.guest(2, 3);
        for (int g = 0; g < x.count(0); g++) {
            x.turn(g, 5 - x.of(g, 0));
            x.cost(g, 99 - x.of(g, 1));
            Edges.tell(x, g, "n=2&!c");
        }
        x.list((1 << x.count(0)) - 1 - x.now(0));
    }

    private static void image() {
        edges.says(39, "All that section 1 tells");
        for (Edges.History history : new Edges.History[] {Edges::empty, Edges::rich, Edges::crowd}) {
            Edges.History kept = x -> {
                history.on(x);
                x.wipe();
                x.image();
            };
            Edges.History changedAndBack = x -> {
                kept.on(x);
                change(x);
                x.undo();
            };
            edges.alike("kept, changed, undone", kept, changedAndBack);
        }
        edges.says(39, "(THE TAPE not)");
        ComeIfShe x = Edges.party("0");
        Edges.fed(x, "!a");
        edges.due("with two bytes on the tape", x.image(), 1);
        edges.due("they stay there", x.count(1), 2);
        x.wipe();
        x.undo();
        edges.due("they don't come back", x.count(1), 0);
        Edges.fed(x, "1");
        x.undo();
        edges.due("nor do others go", x.count(1), 1);
        edges.due("nor change", x.term(0), 1);
        edges.says(39, "is kept: 1.");
        edges.due("of nobody", new ComeIfShe().image(), 1);
        edges.due("of all", Edges.after(Edges::crowd).image(), 1);
        ComeIfShe twice = Edges.party("0");
        edges.due("once", twice.image(), 1);
        edges.due("and again", twice.image(), 1);
        Edges.History none = y -> {
            Edges.rich(y);
            y.tear();
        };
        Edges.History torn = y -> {
            Edges.rich(y);
            y.image();
            y.tear();
        };
        edges.alike("an image changes nothing else", none, torn);
    }

    private static void undo() {
        edges.says(40, "It becomes what was kept latest");
        ComeIfShe x = Edges.party("0");
        x.cost(0, 1);
        x.image();
        x.cost(0, 2);
        x.image();
        x.cost(0, 3);
        x.undo();
        edges.due("the latest of two", x.of(0, 1), 2);
        ComeIfShe sheets = Edges.after(Edges::rich);
        sheets.write(0, 0, 77);
        sheets.sheet(3, 8, 40);
        sheets.undo();
        edges.due("sheets are no part of it", sheets.write(0, 0, 0), 77);
        edges.due("nor is whether they're missing", sheets.write(3, 39, 0), 0);
        edges.says(40, ": how many GUESTS.");
        ComeIfShe none = new ComeIfShe();
        none.image();
        Edges.invite(none, "1", "0");
        none.list(3);
        edges.due("back to none", none.undo(), 0);
        edges.due("none", none.count(0), 0);
        edges.due("nobody on the list", none.now(0), 0);
        edges.due("guest 0 is beyond", none.of(0, 0), Edges.BEYOND);
        ComeIfShe eight = Edges.eight("0");
        eight.image();
        edges.due("eight", eight.undo(), 8);
        ComeIfShe more = Edges.party("0");
        more.image();
        more.guest(0, 0);
        edges.due("one of two", more.undo(), 1);
    }

    private static void undoStays() {
        edges.says(40, "(which stays)");
        ComeIfShe x = Edges.party("0", "1");
        x.image();
        for (int time = 0; time < 3; time++) {
            x.guest(0, 0);
            x.cost(0, 50 + time);
            x.turn(1, 3);
            Edges.tell(x, 0, "1");
            x.list(7);
            edges.due("undone", x.undo(), 2);
            edges.due("its cost", x.of(0, 1), 10);
            edges.due("its kind", x.of(1, 0), 0);
            edges.due("its term", x.of(0, 4), 0);
            edges.due("the list", x.now(0), 0);
            edges.due("who would come", x.now(2), 2);
        }
        edges.due("it can be torn still", x.tear(), 1);
        Edges.History once = y -> {
            Edges.rich(y);
            y.undo();
        };
        Edges.History twice = y -> {
            once.on(y);
            y.undo();
        };
        edges.alike("once and twice", once, twice);
    }

    private static void undoNone() {
        edges.says(40, "NONE: nothing is kept.");
        edges.refused("never kept", Edges::empty, Edges.NONE, x -> x.undo());
        edges.refused("never kept", Edges::crowd, Edges.NONE, x -> x.undo());
        Edges.History torn = x -> {
            Edges.rich(x);
            x.tear();
        };
        edges.refused("torn", torn, Edges.NONE, x -> x.undo());
        ComeIfShe x = Edges.after(torn);
        x.image();
        edges.due("kept again", x.undo(), 5);
    }

    private static void tear() {
        edges.says(41, "Nothing is kept: 1 if something was, else 0.");
        edges.due("never kept", new ComeIfShe().tear(), 0);
        ComeIfShe x = new ComeIfShe();
        x.image();
        edges.due("an image of nobody", x.tear(), 1);
        edges.due("torn already", x.tear(), 0);
        x.image();
        x.image();
        edges.due("two images are one", x.tear(), 1);
        edges.due("so nothing is left", x.tear(), 0);
        x.image();
        x.undo();
        edges.due("undo() leaves it", x.tear(), 1);
        Edges.History torn = y -> {
            Edges.crowd(y);
            y.image();
            y.tear();
        };
        edges.alike("tear() changes nothing else", Edges::crowd, torn);
    }

    private static void count() {
        ComeIfShe nobody = new ComeIfShe();
        ComeIfShe all = Edges.eight("1");
        edges.says(42, "0 GUESTS");
        edges.due("none", nobody.count(0), 0);
        edges.due("eight", all.count(0), 8);
        all.guest(0, 0);
        edges.due("no ninth", all.count(0), 8);
        edges.says(42, "1 bytes of THE TAPE");
        edges.due("none", nobody.count(1), 0);
        Edges.fed(all, Edges.sixty());
        edges.due("sixty", all.count(1), 60);
        all.feed('a', 1);
        edges.due("no more", all.count(1), 60);
        edges.says(42, "2 COSTS of all together");
        edges.due("of none", nobody.count(2), 0);
        edges.due("of eight, on the list or not", all.count(2), 80);
        for (int g = 0; g < 8; g++) {
            all.cost(g, 99);
        }
        edges.due("the most", all.count(2), 792);
        edges.says(42, "3 those who have told a TERM, as a set.");
        edges.due("of none", nobody.count(3), 0);
        edges.due("all", all.count(3), 255);
        ComeIfShe x = Edges.party(null, null, null, null, null, null, null, null);
        edges.due("nobody", x.count(3), 0);
        Edges.tell(x, 7, "1");
        edges.due("the last, though it always holds", x.count(3), 128);
        Edges.tell(x, 7, "1");
        edges.due("twice is once", x.count(3), 128);
        Edges.tell(x, 0, "|");
        edges.due("a FAULT tells none", x.count(3), 128);
        edges.onlyAsks("count(3)", y -> y.count(3));
        edges.says(42, "BEYOND: another what.");
        edges.within("what", Edges::empty, 0, 3, (y, what) -> y.count(what));
        edges.within("what", Edges::rich, 0, 3, (y, what) -> y.count(what));
    }

    private static void statusOfEach() {
        edges.says(43, "which -1: all, 0 to 6: BEYOND to SIZE.");
        Edges.Act[] acts = {x -> x.call(9), x -> x.feed(0, 1), x -> x.as(0, 1), x -> x.undo(), null,
            x -> x.lays(0), x -> x.sheet(0, 8, -1)};
        for (int finding = 0; finding < 7; finding++) {
            ComeIfShe x = Edges.party("0");
            Edges.fed(x, Edges.sixty());
            for (int time = 0; acts[finding] != null && time <= finding; time++) {
                edges.due("finding " + finding, acts[finding].on(x), Edges.BEYOND - finding);
            }
            int told = acts[finding] == null ? 0 : finding + 1;
            edges.due("all", x.status(-1), told);
            for (int which = 0; which < 7; which++) {
                edges.due("status(" + which + ") of " + finding, x.status(which), which == finding ? told : 0);
            }
        }
        edges.onlyAsks("status(0)", x -> x.status(0));
    }

    private static void statusEver() {
        edges.says(43, "How many acts answered a finding ever");
        ComeIfShe x = new ComeIfShe();
        edges.due("none", x.status(-1), 0);
        edges.due("asking counts nothing", x.status(-1), 0);
        for (int n = 1; n <= 400; n++) {
            x.call(0);
        }
        edges.due("400", x.status(0), 400);
        edges.due("400 in all", x.status(-1), 400);
        edges.says(43, "(undo() takes none back)");
        ComeIfShe y = Edges.party("0");
        y.image();
        y.call(1);
        y.as(0, 5);
        y.undo();
        edges.due("behind undo()", y.status(-1), 2);
        edges.due("BEYOND", y.status(0), 1);
        edges.due("KIND", y.status(2), 1);
        y.tear();
        edges.due("behind tear()", y.status(-1), 2);
        y.undo();
        edges.due("undo()'s own", y.status(3), 1);
        edges.due("in all", y.status(-1), 3);
    }

    private static void statusBeyond() {
        edges.says(43, "BEYOND (counted from then on): another one.");
        edges.within("which", Edges::empty, -1, 6, (x, which) -> x.status(which));
        edges.within("which", Edges::rich, -1, 6, (x, which) -> x.status(which));
        ComeIfShe x = new ComeIfShe();
        edges.due("7", x.status(7), Edges.BEYOND);
        edges.due("counted", x.status(0), 1);
        edges.due("-2", x.status(-2), Edges.BEYOND);
        edges.due("counted", x.status(-1), 2);
    }
}
