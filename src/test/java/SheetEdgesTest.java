import java.util.Arrays;

/** The edges that promises 33 to 38 name: sheets, and the lists that they hold. */
public final class SheetEdgesTest {
    private static final Edges edges = new Edges(33, 38);

    public static void main(String[] args) {
        sheetHasNumbers();
        sheetMissing();
        sheetRefused();
        writeBits();
        writeRefused();
        copyNumbers();
        copyAsTheyWere();
        copyRefused();
        copyBeyond();
        lays();
        book();
        readPairs();
        readBitsOfOthers();
        edges.end();
    }

    private static ComeIfShe sheetOf(int bits, long... numbers) {
        ComeIfShe x = new ComeIfShe();
        lay(x, 0, bits, numbers);
        return x;
    }

    private static void lay(ComeIfShe x, int s, int bits, long... numbers) {
        x.sheet(s, bits, numbers.length);
        for (int i = 0; i < numbers.length; i++) {
            x.write(s, i, numbers[i]);
        }
    }

    /** Each number is told by writing 0 in its place, and there is none behind them. */
    private static void holds(String what, ComeIfShe x, int s, long... numbers) {
        for (int i = 0; i < numbers.length; i++) {
            edges.due(what + ", number " + i, x.write(s, i, 0), numbers[i]);
        }
        edges.due(what + ", the next", x.write(s, numbers.length, 0), Edges.BEYOND);
    }

    // ---- 33: sheet

    private static void sheetHasNumbers() {
        edges.says(33, "A sheet has n numbers, all 0, of 8, 16 or 64 bits");
        for (int bits : new int[] {8, 16, 64}) {
            for (int n : new int[] {0, 1, 39, 40}) {
                for (int s = 0; s < 4; s++) {
                    ComeIfShe x = new ComeIfShe();
                    edges.due("n of " + bits + " bits", x.sheet(s, bits, n), n);
                    holds("all 0", x, s, new long[n]);
                }
            }
        }
        ComeIfShe x = new ComeIfShe();
        long[] full = new long[40];
        Arrays.fill(full, -1);
        lay(x, 1, 64, full);
        x.sheet(1, 64, 3);
        holds("all 0, though there were others", x, 1, 0, 0, 0);
        lay(x, 1, 64, full);
        x.sheet(1, 64, 1);
        x.sheet(1, 64, 40);
        holds("all 0 behind a short one", x, 1, new long[40]);
        lay(x, 1, 8, full);
        x.sheet(1, 16, 40);
        holds("all 0 in other bits", x, 1, new long[40]);
        lay(x, 2, 8, 1, 2);
        lay(x, 3, 8, 3);
        x.sheet(1, 8, 0);
        holds("others stay", x, 2, 1, 2);
        holds("others stay", x, 3, 3);
    }

    private static void sheetMissing() {
        edges.says(33, "; bits 0: it is MISSING");
        for (int s = 0; s < 4; s++) {
            int gone = s;
            Edges.History torn = x -> {
                Edges.crowd(x);
                x.sheet(gone, 0, 0);
            };
            edges.refused("sheet " + s, torn, Edges.MISSING, x -> x.write(gone, 0, 0));
            ComeIfShe x = Edges.after(torn);
            int other = (s + 1) % 4;
            edges.due("another is there", x.copy(other, 0, other, 0, 40), 40);
            edges.due("it can be laid again", x.sheet(s, 64, 1), 1);
            holds("all 0", x, s, 0);
        }
        edges.says(33, ": n (0 if it is MISSING).");
        for (int n : new int[] {0, 1, 39, 40}) {
            ComeIfShe x = Edges.after(Edges::rich);
            edges.due("n " + n + " with bits", x.sheet(0, 16, n), n);
            edges.due("n " + n + " without", x.sheet(0, 0, n), 0);
            edges.due("n " + n + " of one missing already", x.sheet(0, 0, n), 0);
        }
    }

    private static void sheetRefused() {
        edges.says(33, "BEYOND: no such sheet");
        edges.within("sheet", Edges::empty, 0, 3, (x, s) -> x.sheet(s, 8, 1));
        edges.within("sheet", Edges::rich, 0, 3, (x, s) -> x.sheet(s, 64, 0));
        edges.within("sheet, to be missing", Edges::rich, 0, 3, (x, s) -> x.sheet(s, 0, 0));
        edges.refused("ahead of SIZE", Edges::rich, Edges.BEYOND, x -> x.sheet(4, 8, -1));
        edges.refused("ahead of SIZE", Edges::rich, Edges.BEYOND, x -> x.sheet(-1, 0, -1));
        edges.says(33, ", other bits.");
        int[] others = {-64, -16, -8, -1, 1, 7, 9, 15, 17, 24, 32, 63, 65, 128, 264, Edges.MIN, Edges.MAX};
        for (int bits : others) {
            edges.refused("bits " + bits, Edges::rich, Edges.BEYOND, x -> x.sheet(0, bits, 1));
            edges.refused("bits " + bits + " ahead of SIZE", Edges::rich, Edges.BEYOND, x -> x.sheet(0, bits, -1));
        }
        edges.says(33, "SIZE: n is below 0 (also with bits 0).");
        for (int bits : new int[] {0, 8, 16, 64}) {
            for (int n : new int[] {-1, -40, Edges.MIN}) {
                edges.refused("n " + n + ", bits " + bits, Edges::rich, Edges.SIZE, x -> x.sheet(0, bits, n));
                edges.refused("n " + n + ", bits " + bits, Edges::empty, Edges.SIZE, x -> x.sheet(3, bits, n));
            }
        }
        edges.says(33, "BEYOND: n is above 40 (also with bits 0).");
        for (int bits : new int[] {0, 8, 16, 64}) {
            for (int n : new int[] {41, 42, 256, Edges.MAX}) {
                edges.refused("n " + n + ", bits " + bits, Edges::rich, Edges.BEYOND, x -> x.sheet(0, bits, n));
                edges.refused("n " + n + ", bits " + bits, Edges::crowd, Edges.BEYOND, x -> x.sheet(3, bits, n));
            }
        }
    }

    // ---- 34: write

    private static void writeBits() {
        edges.says(34, "Number i of a sheet becomes v (its lowest bits): what it was.");
        // Numbers are signed, as Java's byte, short and long are.
        long[][] rows = {
            {8, 127, 127}, {8, 128, -128}, {8, 255, -1}, {8, 256, 0}, {8, 257, 1},
            {8, -128, -128}, {8, -129, 127}, {8, -256, 0}, {8, Long.MIN_VALUE, 0}, {8, Long.MAX_VALUE, -1},
            {16, 32767, 32767}, {16, 32768, -32768}, {16, 65535, -1}, {16, 65536, 0}, {16, 65537, 1},
            {16, -32768, -32768}, {16, -32769, 32767}, {16, Long.MIN_VALUE, 0}, {16, Long.MAX_VALUE, -1},
            {64, 255, 255}, {64, 65536, 65536}, {64, 1L << 32, 1L << 32},
            {64, Long.MAX_VALUE, Long.MAX_VALUE}, {64, Long.MIN_VALUE, Long.MIN_VALUE}, {64, -1, -1}};
        for (long[] row : rows) {
            ComeIfShe x = sheetOf((int) row[0], 5, 6, 7);
            edges.due("what it was", x.write(0, 1, row[1]), 6);
            edges.due(row[1] + " in " + row[0] + " bits", x.write(0, 1, 0), row[2]);
            holds("its neighbours stay", x, 0, 5, 0, 7);
        }
        ComeIfShe x = sheetOf(64, Edges.BEYOND, Edges.SIZE);
        edges.due("a number as low as a finding", x.write(0, 0, 1), Edges.BEYOND);
        edges.due("and the least of these", x.write(0, 1, 2), Edges.SIZE);
        edges.due("is none", x.status(-1), 0);
        edges.due("and was replaced", x.write(0, 0, 0), 1);
        ComeIfShe full = sheetOf(16, new long[40]);
        edges.due("the last of forty", full.write(0, 39, 9), 0);
        edges.due("what it was", full.write(0, 39, 0), 9);
    }

    private static void writeRefused() {
        edges.says(34, "BEYOND: no such sheet.");
        edges.within("sheet", Edges::crowd, 0, 3, (x, s) -> x.write(s, 0, 44));
        edges.within("sheet, missing", Edges::empty, 0, 3, (x, s) -> x.write(s, 0, 44));
        edges.says(34, "MISSING.");
        for (int s = 0; s < 4; s++) {
            int missing = s;
            edges.refused("sheet " + s, Edges::empty, Edges.MISSING, x -> x.write(missing, 0, 44));
        }
        edges.refused("of four one", Edges::rich, Edges.MISSING, x -> x.write(3, 0, 44));
        edges.refused("ahead of a number that there isn't", Edges::rich, Edges.MISSING, x -> x.write(3, -1, 44));
        edges.says(34, "BEYOND: no such number.");
        edges.within("of three, number", Edges::rich, 0, 2, (x, i) -> x.write(0, i, 44));
        edges.within("of two, number", Edges::rich, 0, 1, (x, i) -> x.write(1, i, 44));
        edges.within("of forty, number", Edges::crowd, 0, 39, (x, i) -> x.write(0, i, 44));
        for (int i : new int[] {-1, 0, 1, 39, 40, Edges.MIN, Edges.MAX}) {
            edges.refused("of none, number " + i, Edges::rich, Edges.BEYOND, x -> x.write(2, i, 44));
        }
    }

    // ---- 35: copy

    private static void copyNumbers() {
        edges.says(35, "n numbers of a sheet from one on come to another one from one on");
        for (int bits : new int[] {8, 16, 64}) {
            ComeIfShe x = sheetOf(bits, 1, 2, 3, 4);
            lay(x, 3, bits, 5, 6, 7);
            edges.due("none", x.copy(0, 0, 3, 0, 0), 0);
            edges.due("the last to the first", x.copy(0, 3, 3, 0, 1), 1);
            edges.due("two to the end", x.copy(0, 0, 3, 1, 2), 2);
            holds("copied", x, 3, 4, 1, 2);
            holds("these stay", x, 0, 1, 2, 3, 4);
        }
        long[] numbers = new long[40];
        for (int i = 0; i < 40; i++) {
            numbers[i] = Long.MAX_VALUE - i;
        }
        ComeIfShe full = sheetOf(64, numbers);
        full.sheet(1, 64, 40);
        edges.due("all forty", full.copy(0, 0, 1, 0, 40), 40);
        holds("copied", full, 1, numbers);
        edges.due("none from the end", full.copy(0, 40, 1, 40, 0), 0);
        ComeIfShe empty = sheetOf(8);
        empty.sheet(1, 8, 0);
        edges.due("none of none", empty.copy(0, 0, 1, 0, 0), 0);
    }

    private static void copyAsTheyWere() {
        edges.says(35, "(as they all were): n.");
        ComeIfShe x = sheetOf(16, 1, 2, 3, 4, 5);
        edges.due("onto itself, upwards", x.copy(0, 0, 0, 1, 4), 4);
        holds("upwards", x, 0, 1, 1, 2, 3, 4);
        ComeIfShe y = sheetOf(16, 1, 2, 3, 4, 5);
        edges.due("onto itself, downwards", y.copy(0, 1, 0, 0, 4), 4);
        holds("downwards", y, 0, 2, 3, 4, 5, 5);
        ComeIfShe z = sheetOf(16, 1, 2, 3);
        edges.due("onto itself, all", z.copy(0, 0, 0, 0, 3), 3);
        holds("all", z, 0, 1, 2, 3);
    }

    private static void copyRefused() {
        Edges.Act none = x -> x.copy(0, 0, 1, 0, 0);
        edges.says(35, "BEYOND: no such sheet (either).");
        edges.within("from", Edges::rich, 0, 3, (x, s) -> x.copy(s, 0, 0, 0, 0));
        edges.within("to", Edges::rich, 0, 3, (x, t) -> x.copy(0, 0, t, 0, 0));
        edges.refused("ahead of MISSING", Edges::rich, Edges.BEYOND, x -> x.copy(3, 0, 4, 0, 0));
        edges.refused("ahead of MISSING", Edges::rich, Edges.BEYOND, x -> x.copy(-1, 0, 3, 0, 0));
        edges.says(35, "MISSING: one is.");
        edges.refused("the one", Edges::rich, Edges.MISSING, x -> x.copy(3, 0, 0, 0, 0));
        edges.refused("the other", Edges::rich, Edges.MISSING, x -> x.copy(0, 0, 3, 0, 0));
        edges.refused("both", Edges::empty, Edges.MISSING, none);
        edges.refused("onto itself", Edges::rich, Edges.MISSING, x -> x.copy(3, 0, 3, 0, 0));
        edges.refused("ahead of all that is below 0", Edges::rich, Edges.MISSING, x -> x.copy(3, -1, 0, -1, -1));
        edges.says(35, "KIND: they are not of as many bits.");
        edges.refused("8 and 16", Edges::rich, Edges.KIND, none);
        edges.refused("16 and 8", Edges::rich, Edges.KIND, x -> x.copy(1, 0, 0, 0, 1));
        edges.refused("8 and 64", Edges::rich, Edges.KIND, x -> x.copy(0, 0, 2, 0, 0));
        edges.refused("64 and 8", Edges::rich, Edges.KIND, x -> x.copy(2, 0, 0, 0, 0));
        edges.refused("16 and 64", Edges::rich, Edges.KIND, x -> x.copy(1, 0, 2, 0, 0));
        edges.refused("64 and 16", Edges::rich, Edges.KIND, x -> x.copy(2, 0, 1, 0, 0));
        edges.refused("ahead of too many", Edges::rich, Edges.KIND, x -> x.copy(0, 0, 1, 0, 41));
        edges.refused("ahead of all that is below 0", Edges::rich, Edges.KIND, x -> x.copy(0, -1, 1, -1, -1));
    }

    private static void copyBeyond() {
        Edges.History two = x -> {
            Edges.rich(x);
            lay(x, 1, 8, 8, 9);
        };
        edges.says(35, "BEYOND: one has not so many");
        edges.within("n, from three to two", two, 0, 2, (x, n) -> x.copy(0, 0, 1, 0, n));
        edges.within("n, from two to three", two, 0, 2, (x, n) -> x.copy(1, 0, 0, 0, n));
        edges.within("n, from the second on", two, 0, 1, (x, n) -> x.copy(1, 1, 0, 0, n));
        edges.within("n, to the second on", two, 0, 1, (x, n) -> x.copy(0, 0, 1, 1, n));
        edges.within("n, from the end on", two, 0, 0, (x, n) -> x.copy(1, 2, 0, 0, n));
        edges.within("n, to the end on", two, 0, 0, (x, n) -> x.copy(0, 0, 1, 2, n));
        edges.refused("a sum that wraps, from", two, Edges.BEYOND, x -> x.copy(0, Edges.MAX, 1, 0, 1));
        edges.refused("a sum that wraps, to", two, Edges.BEYOND, x -> x.copy(0, 0, 1, Edges.MAX, 1));
        edges.refused("a sum that wraps, both", two, Edges.BEYOND, x -> x.copy(0, Edges.MAX, 1, Edges.MAX, Edges.MAX));
        edges.refused("forty and one of forty", Edges::crowd, Edges.BEYOND, x -> x.copy(0, 0, 1, 0, 41));
        edges.refused("forty from the second on", Edges::crowd, Edges.BEYOND, x -> x.copy(0, 1, 1, 0, 40));
        edges.says(35, ", or from, to or n is below 0.");
        edges.within("from, of one number", two, 0, 2, (x, from) -> x.copy(0, from, 1, 0, 1));
        edges.within("to, of one number", two, 0, 1, (x, to) -> x.copy(0, 0, 1, to, 1));
        edges.within("from, of none", two, 0, 3, (x, from) -> x.copy(0, from, 1, 0, 0));
        edges.within("to, of none", two, 0, 2, (x, to) -> x.copy(0, 0, 1, to, 0));
        edges.refused("n -1 from the second on", two, Edges.BEYOND, x -> x.copy(0, 1, 1, 1, -1));
        edges.refused("all MIN", two, Edges.BEYOND, x -> x.copy(0, Edges.MIN, 1, Edges.MIN, Edges.MIN));
    }

    // ---- 36 to 38: lists on sheets

    private static void lays() {
        edges.says(36, "Numbers of a sheet tell whether GUESTS 0, 1, .. are on THE LIST (0: not; all others: so");
        long[][] rows = {{8, 0, 0}, {8, 1, 1}, {8, -1, 1}, {8, 128, 1}, {8, 256, 0}, {16, 256, 1}, {16, 65536, 0},
            {64, 1L << 32, 1}, {64, Long.MIN_VALUE, 1}};
        for (long[] row : rows) {
            ComeIfShe x = Edges.eight("0");
            x.list(128 - (int) row[2] * 128);
            lay(x, 0, (int) row[0], 0, 0, 0, 0, 0, 0, 0, row[1]);
            edges.due(row[1] + " in " + row[0] + " bits", x.lays(0), 128 * row[2]);
        }
        edges.says(36, "; who has no number: not");
        ComeIfShe x = Edges.eight("0");
        x.list(255);
        lay(x, 0, 8, 1, 0, 1, 1, 1, 1, 1);
        edges.due("seven for eight", x.lays(0), 125);
        x.list(255);
        x.sheet(0, 8, 0);
        edges.due("none for eight", x.lays(0), 0);
        edges.says(36, "; numbers beyond all GUESTS count nothing): THE LIST then.");
        ComeIfShe two = Edges.party("0", "0");
        lay(two, 0, 64, 1, 1, 1);
        edges.due("three for two", two.lays(0), 3);
        edges.due("the list", two.now(0), 3);
        long[] full = new long[40];
        Arrays.fill(full, 1);
        lay(two, 0, 64, full);
        edges.due("forty for two", two.lays(0), 3);
        ComeIfShe nobody = sheetOf(8, full);
        edges.due("forty for nobody", nobody.lays(0), 0);
        edges.due("the list", nobody.now(0), 0);
        holds("the sheet stays", two, 0, full);
        edges.says(36, "BEYOND: no such sheet.");
        edges.says(36, "MISSING.");
        edges.sheets((y, s) -> y.lays(s));
    }

    private static void book() {
        edges.says(37, "A book: THE LIST, were there 0, 1, 2, .. ROUNDS, comes to a sheet, as many as it has numbers: how many.");
        ComeIfShe x = Edges.party(Edges.counting());
        x.list(240);
        x.sheet(0, 16, 40);
        edges.due("forty", x.book(0), 40);
        long[] booked = new long[40];
        for (int i = 0; i < 40; i++) {
            booked[i] = 240 + i & 255;
        }
        holds("round the ring", x, 0, booked);
        edges.due("the list stays", x.now(0), 240);
        x.sheet(1, 64, 1);
        edges.due("one", x.book(1), 1);
        holds("the list itself", x, 1, 240);
        x.sheet(2, 8, 0);
        edges.due("none", x.book(2), 0);
        x.sheet(2, 8, 2);
        edges.due("in 8 bits", x.book(2), 2);
        holds("in 8 bits, signed", x, 2, 240 - 256, 241 - 256);
        ComeIfShe nobody = sheetOf(8, 7, 7);
        edges.due("of nobody", nobody.book(0), 2);
        holds("nobody", nobody, 0, 0, 0);
        ComeIfShe settled = Edges.party("1", "a");
        lay(settled, 0, 8, 9, 9, 9, 9);
        settled.book(0);
        holds("it stays when it is settled", settled, 0, 0, 1, 3, 3);
        edges.says(37, "BEYOND: no such sheet.");
        edges.says(37, "MISSING.");
        edges.sheets((y, s) -> y.book(s));
    }

    private static void readPairs() {
        edges.says(38, "THE READER, who was there at six: numbers of a sheet are LISTS, one behind the other, by ROUNDS from the first");
        ComeIfShe x = Edges.party("!b", "a");
        lay(x, 0, 16, 0, 1, 3, 2, 0);
        edges.due("as it was", x.read(0), 7);
        lay(x, 0, 16, 0, 1, 3, 2, 1);
        edges.due("the last is wrong", x.read(0), 0);
        lay(x, 0, 16, 1, 1, 3, 2, 0);
        edges.due("the first is wrong", x.read(0), 0);
        ComeIfShe counting = Edges.party(Edges.counting());
        counting.sheet(0, 8, 40);
        counting.list(230);
        counting.book(0);
        edges.due("forty, in 8 bits, round the ring", counting.read(0) > 0 ? 1 : 0, 1);
        counting.write(0, 39, 0);
        edges.due("the fortieth is wrong", counting.read(0), 0);
        edges.says(38, ": how many pairs of a GUEST and a KIND, in place of its own, make it just so (all others as they are");
        edges.due("no guests, no pairs", sheetOf(8, 0, 0).read(0), 0);
        edges.due("no guests, no numbers", sheetOf(8).read(0), 0);
        ComeIfShe all = Edges.eight("1");
        all.sheet(0, 8, 0);
        edges.due("no numbers: all 48 pairs", all.read(0), 48);
        lay(all, 0, 8, 255);
        edges.due("one number: all 48 pairs", all.read(0), 48);
        lay(all, 0, 8, 0, 255);
        edges.due("GUEST, EAGER, SHY, HOST of each", all.read(0), 32);
        lay(all, 0, 8, 0, 254);
        edges.due("NEVER and SULKY of the first alone", all.read(0), 2);
        lay(all, 0, 8, 0, 127);
        edges.due("NEVER and SULKY of the last alone", all.read(0), 2);
        lay(all, 0, 8, 0, 126);
        edges.due("two at once: none", all.read(0), 0);
        lay(all, 0, 8, 31, 254);
        edges.due("NEVER and SULKY with four others", all.read(0), 2);
        lay(all, 0, 8, 62, 254);
        edges.due("SHY and NEVER with five others", all.read(0), 2);
        edges.onlyAsks("read(0)", y -> y.read(0));
    }

    private static void readBitsOfOthers() {
        edges.says(38, "; bits of those who aren't GUESTS must be none).");
        for (int bits : new int[] {8, 16, 64}) {
            for (int bit = 0; bit < bits; bit++) {
                ComeIfShe x = Edges.party("1", "1", "1");
                lay(x, 0, bits, 1L << bit);
                edges.due("bit " + bit + " of " + bits + ", alone", x.read(0), bit < 3 ? 18 : 0);
                lay(x, 0, bits, 0, 7 | 1L << bit);
                edges.due("bit " + bit + " of " + bits + ", behind", x.read(0), bit < 3 ? 12 : 0);
            }
        }
        ComeIfShe full = Edges.eight("1");
        lay(full, 0, 8, 128);
        edges.due("all 8 bits are guests", full.read(0), 48);
        lay(full, 0, 16, 256);
        edges.due("the ninth of 16 bits is none", full.read(0), 0);
        lay(full, 0, 64, -1);
        edges.due("nor are those of 64", full.read(0), 0);
        edges.says(38, "BEYOND: no such sheet.");
        edges.says(38, "MISSING.");
        edges.sheets((y, s) -> y.read(s));
    }
}
