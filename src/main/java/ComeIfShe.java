import java.util.Arrays;

/**
 * Guests who come if others do: who comes in the end, in what order minds change, whom to get so
 * that the rest follow. The document's promises, in its order; sets and lists are told by bits.
 */
public final class ComeIfShe {
    private static final int BEYOND = -1000000001;
    private static final int FULL = -1000000002;
    private static final int KIND = -1000000003;
    private static final int NONE = -1000000004;
    private static final int MISSING = -1000000006;
    private static final int SIZE = -1000000007;
    private static final int FINDINGS = 7;

    private static final int GUEST = 0;
    private static final int EAGER = 1;
    private static final int SHY = 2;
    private static final int HOST = 4;
    private static final int SULKY = 5;
    private static final int KINDS = 6;

    private static final int MOST_GUESTS = 8;
    private static final int MOST_LISTS = 256;
    /** Laid over a list ahead of its use as an index, so that it can be seen to lie inside. */
    private static final int LIST_BITS = MOST_LISTS - 1;
    private static final int MOST_COST = 99;
    private static final int MANY = 4;
    private static final int MOST_BYTES = 60;
    private static final int MOST_OPEN = 6;
    private static final int MOST_FED = 4;
    private static final int MOST_CALLS = 20;
    private static final int MOST_ROUNDS = 64;
    private static final int SHEETS = 4;
    private static final int MOST_NUMBERS = 40;

    /** A word tells of 64 lists at once, so four words tell of all. */
    private static final int WORDS = 4;
    private static final int LISTS_OF_WORD = 64;

    /** Which of a word's 64 lists have guest 0 to 5 on them. */
    private static final long[] LISTS_WITH = {
        0xAAAAAAAAAAAAAAAAL, 0xCCCCCCCCCCCCCCCCL, 0xF0F0F0F0F0F0F0F0L,
        0xFF00FF00FF00FF00L, 0xFFFF0000FFFF0000L, 0xFFFFFFFF00000000L};

    private final Party party;
    private final Party kept;
    private boolean isKept;
    private final Tape tape;
    private final Telephone telephone;
    private final Sheet[] sheets;
    private final int[] findings;

    public ComeIfShe() {
        party = new Party();
        kept = new Party();
        tape = new Tape();
        telephone = new Telephone();
        sheets = new Sheet[SHEETS];
        for (int s = 0; s < SHEETS; s++) {
            sheets[s] = new Sheet();
        }
        findings = new int[FINDINGS];
    }

    // ---- guests

    public int guest(int kind, int cost) {
        if (!isKind(kind) || !isCost(cost)) {
            return found(BEYOND);
        }
        return party.size < MOST_GUESTS ? party.welcome(kind, cost) : found(FULL);
    }

    public int of(int guest, int what) {
        if (!party.has(guest)) {
            return found(BEYOND);
        }
        switch (what) {
            case 0:
                return party.kinds[guest];
            case 1:
                return party.costs[guest];
            case 2:
                return party.list >> guest & 1;
            case 3:
                return party.comers(party.list) >> guest & 1;
            case 4:
                return oneIf(party.termHolds(guest, party.list));
            case 5:
                return othersOn(guest, party.list);
            default:
                return found(BEYOND);
        }
    }

    public int cost(int guest, int v) {
        if (!party.has(guest) || !isCost(v)) {
            return found(BEYOND);
        }
        int was = party.costs[guest];
        party.costs[guest] = v;
        return was;
    }

    public int turn(int guest, int kind) {
        if (!party.has(guest) || !isKind(kind)) {
            return found(BEYOND);
        }
        return party.turnInto(guest, kind);
    }

    public int as(int guest, int kind) {
        if (!party.has(guest) || !isKind(kind)) {
            return found(BEYOND);
        }
        return isUnder(party.kinds[guest], kind) ? party.costs[guest] : found(KIND);
    }

    public int term(int guest) {
        if (!party.has(guest)) {
            return found(BEYOND);
        }
        long holds = tape.holdsBy(guest, 0);
        int fault = tape.fault;
        if (fault < 0) {
            party.tell(guest, 0, holds);
            for (int word = 1; word < WORDS; word++) {
                party.tell(guest, word, tape.holdsBy(guest, word));
            }
        }
        tape.length = 0;
        return fault < 0 ? 1 : -1 - fault;
    }

    public int feed(int bytes, int n) {
        if (n < 1 || n > MOST_FED) {
            return found(BEYOND);
        }
        return n <= MOST_BYTES - tape.length ? tape.append(bytes, n) : found(FULL);
    }

    public int wipe() {
        int had = tape.length;
        tape.length = 0;
        return had;
    }

    // ---- the list

    public int list(int set) {
        if (!party.isSet(set)) {
            return found(BEYOND);
        }
        int was = party.list;
        party.list = set;
        return was;
    }

    public int now(int what) {
        switch (what) {
            case 0:
                return party.list;
            case 1:
                return Integer.bitCount(party.list);
            case 2:
                return party.comers(party.list);
            case 3:
                return oneIf(party.isSettled(party.list));
            case 4:
                return party.costsOf(party.list);
            default:
                return found(BEYOND);
        }
    }

    public int call(int guest) {
        return party.has(guest) ? party.ringUp(guest) : found(BEYOND);
    }

    public int calls(int n) {
        if (n < 1 || n > MOST_CALLS) {
            return found(BEYOND);
        }
        int changes = 0;
        for (int time = 0; time < n; time++) {
            for (int g = 0; g < party.size; g++) {
                changes += party.ringUp(g);
            }
        }
        return changes;
    }

    public int rounds(int n) {
        if (n < 1 || n > MOST_ROUNDS) {
            return found(BEYOND);
        }
        party.list = party.behind(party.list, n);
        return party.list;
    }

    public int on(int n) {
        return n < 0 || n > MOST_ROUNDS ? found(BEYOND) : party.behind(party.list, n);
    }

    // ---- what settles

    public int when() {
        int at = party.list;
        for (int n = 0; n <= MOST_LISTS; n++) {
            if (party.isSettled(at)) {
                return n;
            }
            at = party.comers(at);
        }
        return found(NONE);
    }

    public int ring(int what) {
        if (what != 0 && what != 1) {
            return found(BEYOND);
        }
        int length = party.ringLength();
        return what == 1 ? length : party.roundsToRing(length);
    }

    public int fewest() {
        int goal = telephone.nearestSettled(party);
        return goal < 0 ? found(NONE) : telephone.callsTo(goal);
    }

    public int first() {
        int goal = telephone.nearestSettled(party);
        int called = goal < 0 ? -1 : telephone.firstCalledTo(goal);
        return called < 0 ? found(NONE) : called;
    }

    public int settled() {
        int settled = 0;
        for (int at = 0; at < party.lists(); at++) {
            settled += oneIf(party.isSettled(at));
        }
        return settled;
    }

    public int ith(int i) {
        if (i < 0) {
            return found(BEYOND);
        }
        int before = 0;
        for (int at = 0; at < party.lists(); at++) {
            if (party.isSettled(at)) {
                if (before == i) {
                    return at;
                }
                before++;
            }
        }
        return found(NONE);
    }

    public int sure(int what) {
        if (what < 0 || what > 3) {
            return found(BEYOND);
        }
        int all = party.everyone();
        int some = 0;
        int most = -1;
        int least = MOST_GUESTS;
        for (int at = 0; at < party.lists(); at++) {
            if (party.isSettled(at)) {
                all &= at;
                some |= at;
                most = Math.max(most, Integer.bitCount(at));
                least = Math.min(least, Integer.bitCount(at));
            }
        }
        if (most < 0) {
            return found(NONE);
        }
        switch (what) {
            case 0:
                return all;
            case 1:
                return some;
            case 2:
                return most;
            default:
                return least;
        }
    }

    public int basin() {
        int settling = 0;
        for (int at = 0; at < party.lists(); at++) {
            settling += oneIf(party.isSettled(party.behind(at, MOST_LISTS)));
        }
        return settling;
    }

    public long odds(int guest, int part) {
        if (!party.has(guest) || part != 0 && part != 1) {
            return found(BEYOND);
        }
        long above = 0;
        long below = party.lists();
        for (int at = 0; at < party.lists(); at++) {
            int end = party.behind(at, MOST_LISTS);
            if (party.isSettled(end)) {
                above += end >> guest & 1;
            }
        }
        // Below stands a power of two, so only halving can bring the fraction to lowest terms.
        for (int n = 0; n < MOST_GUESTS && above % 2 == 0 && below % 2 == 0; n++) {
            above /= 2;
            below /= 2;
        }
        return part == 0 ? above : below;
    }

    // ---- whom to get, who spoils it

    public int last(int set) {
        return party.isSet(set) ? party.lastOf(set, party.everyone()) : found(BEYOND);
    }

    public int buys(int m) {
        if (m < 0 || m > MOST_GUESTS) {
            return found(BEYOND);
        }
        int set = cheapestFor(m);
        return set < 0 ? found(NONE) : set;
    }

    public int price(int m) {
        if (m < 0 || m > MOST_GUESTS) {
            return found(BEYOND);
        }
        int set = cheapestFor(m);
        return set < 0 ? found(NONE) : party.costsOf(set);
    }

    public int spoils() {
        int spoiler = -1;
        int fewestLeft = MOST_GUESTS + 1;
        for (int g = 0; g < party.size; g++) {
            int left = Integer.bitCount(party.lastOf(0, party.everyone() & ~(1 << g)));
            if (left < fewestLeft) {
                fewestLeft = left;
                spoiler = g;
            }
        }
        return spoiler < 0 ? found(NONE) : spoiler;
    }

    public int invites(int a, int b) {
        if (a < 0 || b > MOST_GUESTS || a > b) {
            return found(BEYOND);
        }
        int best = -1;
        for (int asked = 0; asked < party.lists(); asked++) {
            boolean smaller = best < 0 || Integer.bitCount(asked) < Integer.bitCount(best);
            if (smaller && isWellAsked(asked, a, b)) {
                best = asked;
            }
        }
        return best < 0 ? found(NONE) : best;
    }

    public int against(int one, int other) {
        if (!party.has(one) || !party.has(other) || one == other) {
            return found(BEYOND);
        }
        boolean withOne = false;
        boolean withOther = false;
        boolean withBoth = false;
        for (int at = 0; at < party.lists(); at++) {
            if (party.isSettled(at)) {
                boolean hasOne = isOn(one, at);
                boolean hasOther = isOn(other, at);
                withOne |= hasOne;
                withOther |= hasOther;
                withBoth |= hasOne && hasOther;
            }
        }
        return oneIf(withOne && withOther && !withBoth);
    }

    public int minds(int guest) {
        if (!party.has(guest)) {
            return found(BEYOND);
        }
        int bit = 1 << guest;
        int minding = 0;
        for (int at = 0; at < party.lists(); at++) {
            minding |= party.comers(at | bit) ^ party.comers(at & ~bit);
        }
        return minding & ~bit;
    }

    public int kind(int guest) {
        if (!party.has(guest)) {
            return found(BEYOND);
        }
        int best = GUEST;
        int most = -1;
        for (int kind = 0; kind < KINDS; kind++) {
            int settling = party.settledAs(guest, kind);
            if (settling > most) {
                most = settling;
                best = kind;
            }
        }
        return best;
    }

    // ---- sheets

    public int sheet(int s, int bits, int n) {
        if (!isSheet(s) || bits != 0 && bits != 8 && bits != 16 && bits != 64) {
            return found(BEYOND);
        }
        if (n < 0) {
            return found(SIZE);
        }
        return n > MOST_NUMBERS ? found(BEYOND) : sheets[s].lay(bits, n);
    }

    public long write(int s, int i, long v) {
        int lack = sheetLack(s);
        if (lack != 0) {
            return found(lack);
        }
        if (i < 0 || i >= sheets[s].size) {
            return found(BEYOND);
        }
        return sheets[s].put(i, v);
    }

    public int copy(int s, int from, int t, int to, int n) {
        if (!isSheet(s) || !isSheet(t)) {
            return found(BEYOND);
        }
        if (sheets[s].isMissing() || sheets[t].isMissing()) {
            return found(MISSING);
        }
        if (sheets[s].bits != sheets[t].bits) {
            return found(KIND);
        }
        if (!sheets[s].hasRun(from, n) || !sheets[t].hasRun(to, n)) {
            return found(BEYOND);
        }
        System.arraycopy(sheets[s].numbers, from, sheets[t].numbers, to, n);
        return n;
    }

    public int lays(int s) {
        int lack = sheetLack(s);
        if (lack != 0) {
            return found(lack);
        }
        int set = 0;
        for (int g = 0; g < party.size && g < sheets[s].size; g++) {
            if (sheets[s].numbers[g] != 0) {
                set |= 1 << g;
            }
        }
        party.list = set;
        return set;
    }

    public int book(int s) {
        int lack = sheetLack(s);
        if (lack != 0) {
            return found(lack);
        }
        int at = party.list;
        for (int i = 0; i < sheets[s].size; i++) {
            sheets[s].put(i, at);
            at = party.comers(at);
        }
        return sheets[s].size;
    }

    public int read(int s) {
        int lack = sheetLack(s);
        if (lack != 0) {
            return found(lack);
        }
        if (!sheets[s].holdsOnly(party.everyone())) {
            return 0;
        }
        int pairs = 0;
        for (int g = 0; g < party.size; g++) {
            for (int kind = 0; kind < KINDS; kind++) {
                pairs += oneIf(explains(sheets[s], g, kind));
            }
        }
        return pairs;
    }

    // ---- images

    public int image() {
        kept.take(party);
        isKept = true;
        return 1;
    }

    public int undo() {
        if (!isKept) {
            return found(NONE);
        }
        party.take(kept);
        return party.size;
    }

    public int tear() {
        int was = oneIf(isKept);
        isKept = false;
        return was;
    }

    public int count(int what) {
        switch (what) {
            case 0:
                return party.size;
            case 1:
                return tape.length;
            case 2:
                return party.costsOf(party.everyone());
            case 3:
                return party.told;
            default:
                return found(BEYOND);
        }
    }

    public int status(int which) {
        if (which < -1 || which >= FINDINGS) {
            return found(BEYOND);
        }
        if (which >= 0) {
            return findings[which];
        }
        int all = 0;
        for (int f = 0; f < FINDINGS; f++) {
            all += findings[f];
        }
        return all;
    }

    // ---- what the acts have in common

    /** Every finding is told through here, since status() counts them. */
    private int found(int finding) {
        int which = BEYOND - finding;
        if (which >= 0 && which < FINDINGS) {
            findings[which]++;
        }
        return finding;
    }

    /** The finding for a sheet that there isn't or that is missing; 0 for one that can be used. */
    private int sheetLack(int s) {
        if (!isSheet(s)) {
            return BEYOND;
        }
        return sheets[s].isMissing() ? MISSING : 0;
    }

    private int cheapestFor(int m) {
        int best = -1;
        for (int set = 0; set < party.lists(); set++) {
            boolean better = best < 0 || isCheaper(set, best);
            if (better && Integer.bitCount(party.lastOf(set, party.everyone())) >= m) {
                best = set;
            }
        }
        return best;
    }

    private boolean isCheaper(int set, int than) {
        int costs = party.costsOf(set);
        int costsThan = party.costsOf(than);
        return costs < costsThan
            || costs == costsThan && Integer.bitCount(set) < Integer.bitCount(than);
    }

    private boolean isWellAsked(int asked, int a, int b) {
        int last = party.lastOf(0, asked);
        int coming = Integer.bitCount(last);
        return coming >= a && coming <= b && (party.comers(last) & asked) == last;
    }

    private boolean explains(Sheet sheet, int guest, int kind) {
        for (int i = 1; i < sheet.size; i++) {
            if (party.comersAs(guest, kind, sheet.listAt(i - 1)) != sheet.listAt(i)) {
                return false;
            }
        }
        return true;
    }

    private static boolean isKind(int kind) {
        return kind >= 0 && kind < KINDS;
    }

    private static boolean isCost(int cost) {
        return cost >= 0 && cost <= MOST_COST;
    }

    private static boolean isSheet(int s) {
        return s >= 0 && s < SHEETS;
    }

    private static boolean isUnder(int kind, int above) {
        return kind == above || above == GUEST
            || kind == HOST && above == EAGER || kind == SULKY && above == SHY;
    }

    private static boolean isOn(int guest, int list) {
        return (list >> guest & 1) != 0;
    }

    private static int othersOn(int guest, int list) {
        return Integer.bitCount(list & ~(1 << guest));
    }

    private static int oneIf(boolean holds) {
        return holds ? 1 : 0;
    }

    /** All that section 1 of the document tells: the guests and the list. */
    private static final class Party {
        private static final int UNKNOWN = -1;

        private int size;
        private int list;
        private int told;
        private final int[] kinds;
        private final int[] costs;
        /** By what lists each guest's term holds: four words a guest, a bit a list. */
        private final long[] terms;
        /** Who would come by each list, as far as it has been asked since kinds or terms changed. */
        private final int[] known;

        Party() {
            kinds = new int[MOST_GUESTS];
            costs = new int[MOST_GUESTS];
            terms = new long[MOST_GUESTS * WORDS];
            known = new int[MOST_LISTS];
            Arrays.fill(terms, -1L);
            Arrays.fill(known, UNKNOWN);
        }

        boolean has(int guest) {
            return guest >= 0 && guest < size;
        }

        boolean isSet(int set) {
            return set >= 0 && set < lists();
        }

        int lists() {
            return 1 << size;
        }

        int everyone() {
            return lists() - 1;
        }

        /** The caller has seen that there is room. */
        int welcome(int kind, int cost) {
            int guest = size;
            kinds[guest] = kind;
            costs[guest] = cost;
            size++;
            Arrays.fill(known, UNKNOWN);
            return guest;
        }

        int turnInto(int guest, int kind) {
            int was = kinds[guest];
            kinds[guest] = kind;
            Arrays.fill(known, UNKNOWN);
            return was;
        }

        void tell(int guest, int word, long holds) {
            terms[guest * WORDS + word] = holds;
            told |= 1 << guest;
            Arrays.fill(known, UNKNOWN);
        }

        void take(Party other) {
            size = other.size;
            list = other.list;
            told = other.told;
            System.arraycopy(other.kinds, 0, kinds, 0, MOST_GUESTS);
            System.arraycopy(other.costs, 0, costs, 0, MOST_GUESTS);
            System.arraycopy(other.terms, 0, terms, 0, MOST_GUESTS * WORDS);
            Arrays.fill(known, UNKNOWN);
        }

        int costsOf(int set) {
            int together = 0;
            for (int g = 0; g < size; g++) {
                together += isOn(g, set) ? costs[g] : 0;
            }
            return together;
        }

        boolean termHolds(int guest, int by) {
            int word = (by & LIST_BITS) / LISTS_OF_WORD;
            return (terms[guest * WORDS + word] >>> by % LISTS_OF_WORD & 1L) != 0;
        }

        boolean wouldComeAs(int kind, int guest, int by) {
            boolean holds = termHolds(guest, by);
            int others = othersOn(guest, by);
            switch (kind) {
                case GUEST:
                    return holds;
                case EAGER:
                    return holds || others >= MANY;
                case SHY:
                    return holds && others <= MANY;
                case HOST:
                    return holds || others >= MANY || others == 0;
                case SULKY:
                    return !(holds && others <= MANY);
                default:
                    return false;
            }
        }

        /** Those who would come by a list: the list one round later. */
        int comers(int by) {
            int at = by & LIST_BITS;
            if (known[at] == UNKNOWN) {
                int set = 0;
                for (int g = 0; g < size; g++) {
                    set |= wouldComeAs(kinds[g], g, at) ? 1 << g : 0;
                }
                known[at] = set;
            }
            return known[at];
        }

        int comersAs(int guest, int kind, int by) {
            int rest = comers(by) & ~(1 << guest);
            return wouldComeAs(kind, guest, by) ? rest | 1 << guest : rest;
        }

        boolean isSettled(int at) {
            return comers(at) == at;
        }

        int settledAs(int guest, int kind) {
            int settling = 0;
            for (int at = 0; at < lists(); at++) {
                settling += oneIf(comersAs(guest, kind, at) == at);
            }
            return settling;
        }

        int called(int guest, int at) {
            return at & ~(1 << guest) | comers(at) & 1 << guest;
        }

        int ringUp(int guest) {
            int was = list;
            list = called(guest, was);
            return oneIf(list != was);
        }

        int behind(int from, int rounds) {
            int at = from;
            for (int n = 0; n < rounds && !isSettled(at); n++) {
                at = comers(at);
            }
            return at;
        }

        /** By 256 rounds it must have come to a list that comes again. */
        int ringLength() {
            int start = behind(list, MOST_LISTS);
            int at = comers(start);
            int length = 1;
            for (int n = 0; n < MOST_LISTS && at != start; n++) {
                at = comers(at);
                length++;
            }
            return length;
        }

        int roundsToRing(int length) {
            int at = list;
            int ahead = behind(list, length);
            int rounds = 0;
            for (int n = 0; n < MOST_LISTS && at != ahead; n++) {
                at = comers(at);
                ahead = comers(ahead);
                rounds++;
            }
            return rounds;
        }

        /** The list behind 64 rounds with some bought and only those asked let in beside them. */
        int lastOf(int bought, int asked) {
            int at = bought;
            int before = -1;
            for (int n = 0; n < MOST_ROUNDS && at != before; n++) {
                before = at;
                at = comers(at) & asked | bought;
            }
            return at;
        }
    }

    /** Bytes fed so far, and the reading of a term from them. */
    private static final class Tape {
        private static final int END = -1;
        private static final int NO_FAULT = -1;

        private final int[] bytes;
        private int length;
        private int place;
        /** Where the bytes stop being a term; below 0 if they are one. */
        private int fault;
        /** Whose term it is, and of which 64 lists it is asked. */
        private int teller;
        private int word;

        Tape() {
            bytes = new int[MOST_BYTES];
            fault = NO_FAULT;
        }

        /** The caller has seen that there is room. */
        int append(int packed, int n) {
            for (int left = n - 1; left >= 0; left--) {
                bytes[length] = packed >>> 8 * left & 255;
                length++;
            }
            return length;
        }

        /** Bit i of the answer: whether it holds by list 64 * asked + i, told by a guest. */
        long holdsBy(int guest, int asked) {
            teller = guest;
            word = asked;
            place = 0;
            fault = NO_FAULT;
            long holds = anyOf(0);
            if (place < length) {
                fail();
            }
            return holds;
        }

        private long anyOf(int open) {
            long holds = allOf(open);
            for (int n = 0; n < MOST_BYTES && passes('|'); n++) {
                holds |= allOf(open);
            }
            return holds;
        }

        private long allOf(int open) {
            long holds = unit(open);
            for (int n = 0; n < MOST_BYTES && passes('&'); n++) {
                holds &= unit(open);
            }
            return holds;
        }

        private long unit(int open) {
            int sign = sign();
            if (sign >= 'a' && sign <= 'h') {
                place++;
                return listsWith(sign - 'a');
            }
            if (open < MOST_OPEN && passes('!')) {
                return ~unit(open + 1);
            }
            if (open < MOST_OPEN && passes('(')) {
                return closed(anyOf(open + 1));
            }
            if (passes('n')) {
                return compared();
            }
            if (passes('1')) {
                return -1L;
            }
            return passes('0') ? 0L : fail();
        }

        private long closed(long inside) {
            return passes(')') ? inside : fail();
        }

        private long compared() {
            int sign = sign();
            if (sign != '<' && sign != '=' && sign != '>') {
                return fail();
            }
            place++;
            int digit = sign();
            if (digit < '0' || digit > '9') {
                return fail();
            }
            place++;
            return listsWhereOthers(sign, digit - '0');
        }

        private long listsWith(int guest) {
            if (guest < LISTS_WITH.length) {
                return LISTS_WITH[guest];
            }
            return isOn(guest - LISTS_WITH.length, word) ? -1L : 0L;
        }

        private long listsWhereOthers(int sign, int digit) {
            long holds = 0;
            for (int i = 0; i < LISTS_OF_WORD; i++) {
                int list = word * LISTS_OF_WORD + i;
                // Not by othersOn(): a term's reading stands deep in calls already.
                int others = Integer.bitCount(list & ~(1 << teller));
                boolean so = sign == '<' ? others < digit
                    : sign == '=' ? others == digit : others > digit;
                holds |= so ? 1L << i : 0L;
            }
            return holds;
        }

        /** The byte to be read next; behind a fault nothing more is read. */
        private int sign() {
            return fault == NO_FAULT && place < length ? bytes[place] : END;
        }

        private boolean passes(char expected) {
            boolean is = sign() == expected;
            place += oneIf(is);
            return is;
        }

        /** Only the first fault counts. */
        private long fail() {
            if (fault == NO_FAULT) {
                fault = place;
            }
            return 0L;
        }
    }

    /** The shortest way by calls from the list to one that is settled. */
    private static final class Telephone {
        private static final int UNSEEN = -1;
        private static final int NOBODY = -1;

        private final int[] queue;
        private final int[] callsTo;
        private final int[] firstCalled;

        Telephone() {
            queue = new int[MOST_LISTS];
            callsTo = new int[MOST_LISTS];
            firstCalled = new int[MOST_LISTS];
        }

        /**
         * The settled list that the first of the shortest rows of calls leads to, or -1. Lists wait
         * in the order of the rows that lead to them, so the first settled one is the one sought.
         */
        int nearestSettled(Party party) {
            Arrays.fill(callsTo, UNSEEN);
            int start = party.list & LIST_BITS;
            queue[0] = start;
            callsTo[start] = 0;
            firstCalled[start] = NOBODY;
            int waiting = 1;
            for (int head = 0; head < waiting && head < MOST_LISTS; head++) {
                if (party.isSettled(queue[head])) {
                    return queue[head];
                }
                waiting = callAll(party, queue[head], waiting);
            }
            return -1;
        }

        private int callAll(Party party, int from, int waiting) {
            int end = waiting;
            for (int g = 0; g < party.size; g++) {
                int to = party.called(g, from) & LIST_BITS;
                if (callsTo[to] == UNSEEN && end < MOST_LISTS) {
                    callsTo[to] = callsTo[from] + 1;
                    firstCalled[to] = callsTo[from] == 0 ? g : firstCalled[from];
                    queue[end] = to;
                    end++;
                }
            }
            return end;
        }

        int callsTo(int goal) {
            return callsTo[goal & LIST_BITS];
        }

        int firstCalledTo(int goal) {
            return firstCalled[goal & LIST_BITS];
        }
    }

    /** A row of signed numbers of 8, 16 or 64 bits; with 0 bits it is missing. */
    private static final class Sheet {
        private int bits;
        private int size;
        private final long[] numbers;

        Sheet() {
            numbers = new long[MOST_NUMBERS];
        }

        boolean isMissing() {
            return bits == 0;
        }

        int lay(int newBits, int n) {
            bits = newBits;
            size = newBits == 0 ? 0 : n;
            Arrays.fill(numbers, 0L);
            return size;
        }

        long put(int i, long v) {
            long was = numbers[i];
            numbers[i] = bits == 8 ? (byte) v : bits == 16 ? (short) v : v;
            return was;
        }

        /** Compared so that no sum can overflow. */
        boolean hasRun(int from, int n) {
            return from >= 0 && n >= 0 && n <= size && from <= size - n;
        }

        /** A number's own bits alone: an 8-bit number below 0 is a list with guest 7 on it. */
        private long bitsAt(int i) {
            return bits == 8 ? numbers[i] & 0xFFL : bits == 16 ? numbers[i] & 0xFFFFL : numbers[i];
        }

        boolean holdsOnly(int set) {
            for (int i = 0; i < size; i++) {
                if ((bitsAt(i) & ~(long) set) != 0) {
                    return false;
                }
            }
            return true;
        }

        /** For numbers that holdsOnly() has seen to be lists. */
        int listAt(int i) {
            return (int) bitsAt(i) & LIST_BITS;
        }
    }
}
