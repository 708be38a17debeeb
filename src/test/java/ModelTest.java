import java.lang.reflect.Method;
import java.math.BigInteger;
import java.util.ArrayDeque;
import java.util.ArrayList;
import java.util.Arrays;
import java.util.Deque;
import java.util.HashMap;
import java.util.List;
import java.util.Map;
import java.util.Random;

/** Rows of calls from fixed seeds: the class must answer as a plain model of the document does. */
public final class ModelTest {
    private static final int RUNS = 600;
    private static final int CALLS = 512;

    public static void main(String[] args) throws Exception {
        Map<String, Method> face = new HashMap<>();
        for (Method method : ComeIfShe.class.getDeclaredMethods()) {
            if (java.lang.reflect.Modifier.isPublic(method.getModifiers())) {
                face.put(method.getName(), method);
            }
        }
        String[] names = face.keySet().toArray(new String[0]);
        Arrays.sort(names);
        Map<String, Integer> answered = new HashMap<>();
        int wrong = 0;
        for (int seed = 1; seed <= RUNS && wrong < 10; seed++) {
            wrong += run(seed, face, names, answered);
        }
        for (String name : names) {
            if (answered.getOrDefault(name, 0) < 100) {
                System.out.println(name + " answered something but a finding too seldom");
                wrong++;
            }
        }
        System.out.println(names.length + " acts in " + RUNS + " runs, " + wrong + " wrong");
        if (wrong != 0) {
            System.exit(1);
        }
    }

    private static int run(int seed, Map<String, Method> face, String[] names,
            Map<String, Integer> answered) throws Exception {
        Random lot = new Random(seed);
        ComeIfShe real = new ComeIfShe();
        Model model = new Model();
        int crowd = 1 + lot.nextInt(8);
        int made = 0;
        List<String> row = new ArrayList<>();
        while (made < CALLS) {
            for (Act act : next(lot, names, model, crowd)) {
                long got = invoke(real, face.get(act.name), act.args);
                long want = model.answer(act.name, act.args);
                made++;
                row.add(act + " = " + want);
                if (got > -1000000000) {
                    answered.merge(act.name, 1, Integer::sum);
                }
                if (got != want) {
                    System.out.println("seed " + seed + ", call " + made + ": " + act
                        + " answered " + got + ", due is " + want);
                    System.out.println("  behind " + row.subList(Math.max(0, row.size() - 30), row.size()));
                    return 1;
                }
            }
        }
        return 0;
    }

    private static long invoke(ComeIfShe real, Method method, long[] args) throws Exception {
        Object[] boxed = new Object[args.length];
        for (int i = 0; i < args.length; i++) {
            boxed[i] = method.getParameterTypes()[i] == long.class ? (Object) args[i] : (Object) (int) args[i];
        }
        return ((Number) method.invoke(real, boxed)).longValue();
    }

    record Act(String name, long[] args) {
        @Override
        public String toString() {
            return name + Arrays.toString(args);
        }
    }

    private static List<Act> next(Random lot, String[] names, Model model, int crowd) {
        if (model.kinds.size() < crowd && lot.nextInt(3) == 0) {
            return List.of(new Act("guest", new long[] {lot.nextInt(6), lot.nextInt(4) == 0 ? lot.nextInt(100) : lot.nextInt(4)}));
        }
        if (lot.nextInt(6) == 0) {
            return telling(lot, model);
        }
        String name = names[lot.nextInt(names.length)];
        if (name.equals("guest") && model.kinds.size() >= crowd && lot.nextInt(6) != 0) {
            name = "turn";
        }
        if (name.equals("undo") && lot.nextInt(3) != 0) {
            name = "image";
        }
        return List.of(new Act(name, args(lot, name, model)));
    }

    /** A term, mostly a right one, fed in pieces. */
    private static List<Act> telling(Random lot, Model model) {
        List<Act> acts = new ArrayList<>();
        StringBuilder text = new StringBuilder();
        grow(lot, text, lot.nextInt(5));
        if (lot.nextInt(5) == 0 && text.length() > 0) {
            int at = lot.nextInt(text.length());
            String signs = "abchijn0129<=>!()&| \u00ff";
            char sign = signs.charAt(lot.nextInt(signs.length()));
            switch (lot.nextInt(3)) {
                case 0 -> text.setCharAt(at, sign);
                case 1 -> text.insert(at, sign);
                default -> text.deleteCharAt(at);
            }
        }
        if (lot.nextInt(4) != 0) {
            acts.add(new Act("wipe", new long[0]));
        }
        for (int i = 0; i < text.length();) {
            int n = Math.min(text.length() - i, 1 + lot.nextInt(4));
            long packed = lot.nextInt();
            for (int j = 0; j < n; j++) {
                packed = packed << 8 | text.charAt(i + j);
            }
            acts.add(new Act("feed", new long[] {(int) packed, n}));
            i += n;
        }
        acts.add(new Act("term", new long[] {guest(lot, model)}));
        return acts;
    }

    private static void grow(Random lot, StringBuilder text, int depth) {
        int form = depth == 0 ? 4 + lot.nextInt(6) : lot.nextInt(10);
        if (form < 2) {
            grow(lot, text, depth - 1);
            text.append(form == 0 ? '|' : '&');
            grow(lot, text, depth - 1);
        } else if (form == 2) {
            text.append('(');
            grow(lot, text, depth - 1);
            text.append(')');
        } else if (form == 3) {
            text.append('!');
            grow(lot, text, depth - 1);
        } else if (form < 7) {
            text.append((char) ('a' + lot.nextInt(8)));
        } else if (form == 9 && lot.nextInt(2) == 0) {
            text.append(lot.nextInt(2));
        } else {
            text.append('n').append("<=>".charAt(lot.nextInt(3))).append(lot.nextInt(10));
        }
    }

    private static long guest(Random lot, Model model) {
        return lot.nextInt(25) == 0 ? odd(lot) : lot.nextInt(Math.max(1, model.kinds.size()));
    }

    private static int odd(Random lot) {
        int[] odds = {-1, -2, 5, 6, 7, 8, 9, 64, 65, 99, 100, 256, Integer.MIN_VALUE, Integer.MAX_VALUE};
        return odds[lot.nextInt(odds.length)];
    }

    private static long some(Random lot, int from, int to) {
        return lot.nextInt(12) == 0 ? (lot.nextBoolean() ? odd(lot) : lot.nextBoolean() ? from - 1 : to + 1)
            : from + lot.nextInt(to - from + 1);
    }

    private static long[] args(Random lot, String name, Model model) {
        int everyone = (1 << model.kinds.size()) - 1;
        switch (name) {
            case "guest": return new long[] {some(lot, 0, 5), some(lot, 0, 99)};
            case "of": return new long[] {guest(lot, model), some(lot, 0, 5)};
            case "cost": return new long[] {guest(lot, model), some(lot, 0, 99)};
            case "turn": case "as": return new long[] {guest(lot, model), some(lot, 0, 5)};
            case "term": case "call": case "minds": case "kind": return new long[] {guest(lot, model)};
            case "feed": return new long[] {lot.nextInt(), some(lot, 1, 4)};
            case "list": case "last": return new long[] {some(lot, 0, everyone)};
            case "now": return new long[] {some(lot, 0, 4)};
            case "calls": return new long[] {some(lot, 1, 20)};
            case "rounds": return new long[] {some(lot, 1, 64)};
            case "on": return new long[] {some(lot, 0, 64)};
            case "ring": return new long[] {some(lot, 0, 1)};
            case "ith": return new long[] {some(lot, 0, 5)};
            case "sure": case "count": return new long[] {some(lot, 0, 3)};
            case "odds": return new long[] {guest(lot, model), some(lot, 0, 1)};
            case "buys": case "price": return new long[] {some(lot, 0, lot.nextBoolean() ? 8 : model.kinds.size())};
            case "invites": {
                long a = some(lot, 0, 4);
                return new long[] {a, lot.nextInt(10) == 0 ? some(lot, 0, 8) : a + lot.nextInt(4)};
            }
            case "against": return new long[] {guest(lot, model), guest(lot, model)};
            case "sheet": {
                int[] bits = {0, 8, 8, 16, 16, 64, 64, 64, 32, -8};
                return new long[] {some(lot, 0, 3), bits[lot.nextInt(bits.length)],
                    lot.nextInt(3) == 0 ? some(lot, 0, 40) : some(lot, 0, 6)};
            }
            case "write": {
                long v = lot.nextInt(3) == 0 ? lot.nextLong() : lot.nextInt(2) == 0 ? lot.nextInt(600) - 200 : lot.nextInt(everyone + 1);
                return new long[] {some(lot, 0, 3), some(lot, 0, 4), v};
            }
            case "copy": return new long[] {some(lot, 0, 3), some(lot, 0, 4), some(lot, 0, 3), some(lot, 0, 4), some(lot, 0, 4)};
            case "lays": case "book": case "read": return new long[] {some(lot, 0, 3)};
            case "status": return new long[] {some(lot, -1, 6)};
            default: return new long[0];
        }
    }

    /** The document taken word by word, with no care for speed. */
    private static final class Model {
        static final long BEYOND = -1000000001L;
        static final long FULL = BEYOND - 1;
        static final long KIND = BEYOND - 2;
        static final long NONE = BEYOND - 3;
        static final long MISSING = BEYOND - 5;
        static final long SIZE = BEYOND - 6;

        List<Integer> kinds = new ArrayList<>();
        List<Integer> costs = new ArrayList<>();
        List<String> terms = new ArrayList<>();
        int list;
        String tape = "";
        Model kept;
        final BigInteger[][] sheets = new BigInteger[4][];
        final int[] bits = new int[4];
        final Map<Long, Integer> findings = new HashMap<>();

        long answer(String name, long[] a) {
            isNumberOfWrite = false;
            long answer = act(name, a);
            if (answer < -1000000000L && !isNumberOfWrite) {
                findings.merge(answer, 1, Integer::sum);
            }
            return answer;
        }

        /** A number of 64 bits may be as low as a finding. */
        boolean isNumberOfWrite;

        boolean has(long guest) {
            return guest >= 0 && guest < kinds.size();
        }

        static boolean in(long v, long from, long to) {
            return v >= from && v <= to;
        }

        int lists() {
            return 1 << kinds.size();
        }

        long act(String name, long[] a) {
            switch (name) {
                case "guest": case "of": case "cost": case "turn": case "as": case "term": case "feed": case "wipe":
                    return guests(name, a);
                case "list": case "now": case "call": case "calls": case "rounds": case "on":
                    return theList(name, a);
                case "when": case "ring": case "fewest": case "first": case "settled": case "ith": case "sure":
                case "basin": case "odds":
                    return settles(name, a);
                case "last": case "buys": case "price": case "spoils": case "invites": case "against": case "minds":
                case "kind":
                    return whom(name, a);
                case "sheet": case "write": case "copy": case "lays": case "book": case "read":
                    return paper(name, a);
                default:
                    return images(name, a);
            }
        }

        // ---- terms: held as text, and worked out by rewriting it

        static boolean holds(String term, int guest, int by) {
            if (term == null) {
                return true;
            }
            StringBuilder plain = new StringBuilder();
            for (int i = 0; i < term.length(); i++) {
                char c = term.charAt(i);
                if (c >= 'a' && c <= 'h') {
                    plain.append((by & 1 << c - 'a') != 0 ? 1 : 0);
                } else if (c == 'n') {
                    int others = others(guest, by);
                    int digit = term.charAt(i + 2) - '0';
                    char sign = term.charAt(i + 1);
                    plain.append((sign == '<' ? others < digit : sign == '>' ? others > digit : others == digit) ? 1 : 0);
                    i += 2;
                } else {
                    plain.append(c);
                }
            }
            return rewritten(plain.toString()).equals("1");
        }

        /** Inner things first: a pair of brackets around one digit, "!", then "&", then "|". */
        private static String rewritten(String text) {
            String[][] rules = {{"(0)", "0"}, {"(1)", "1"}, {"!0", "1"}, {"!1", "0"},
                {"0&0", "0"}, {"0&1", "0"}, {"1&0", "0"}, {"1&1", "1"}};
            String now = text;
            boolean going = true;
            while (going) {
                going = false;
                for (String[] rule : rules) {
                    if (now.contains(rule[0])) {
                        now = now.replace(rule[0], rule[1]);
                        going = true;
                        break;
                    }
                }
                if (!going) {
                    String less = orOnce(now);
                    going = !less.equals(now);
                    now = less;
                }
            }
            return now;
        }

        /** One "|" between digits that no "&" or "!" lays claim to. */
        private static String orOnce(String text) {
            for (int i = 1; i + 1 < text.length(); i++) {
                boolean digits = "01".indexOf(text.charAt(i - 1)) >= 0 && "01".indexOf(text.charAt(i + 1)) >= 0;
                boolean left = i < 2 || "&!".indexOf(text.charAt(i - 2)) < 0;
                boolean right = i + 2 >= text.length() || text.charAt(i + 2) != '&';
                if (text.charAt(i) == '|' && digits && left && right) {
                    boolean one = text.charAt(i - 1) == '1' || text.charAt(i + 1) == '1';
                    return text.substring(0, i - 1) + (one ? 1 : 0) + text.substring(i + 2);
                }
            }
            return text;
        }

        /** -1 or the fault's place: byte by byte, with a pile of what is open. */
        static int faultOf(String text) {
            Deque<Character> open = new ArrayDeque<>();
            char awaits = 'u';
            for (int i = 0; i < text.length(); i++) {
                char c = text.charAt(i);
                char then;
                if (awaits == 'u') {
                    if (c == '!' || c == '(') {
                        if (open.size() == 6) {
                            return i;
                        }
                        open.push(c);
                        continue;
                    }
                    then = c == 'n' ? 's' : "abcdefgh01".indexOf(c) >= 0 ? 'o' : '?';
                } else if (awaits == 's') {
                    then = "<=>".indexOf(c) >= 0 ? 'd' : '?';
                } else if (awaits == 'd') {
                    then = "0123456789".indexOf(c) >= 0 ? 'o' : '?';
                } else if (c == ')' && !open.isEmpty()) {
                    open.pop();
                    then = 'o';
                } else {
                    then = c == '|' || c == '&' ? 'u' : '?';
                }
                if (then == '?') {
                    return i;
                }
                awaits = then;
                while (awaits == 'o' && !open.isEmpty() && open.peek() == '!') {
                    open.pop();
                }
            }
            return awaits == 'o' && open.isEmpty() ? -1 : text.length();
        }

        static int others(int guest, int by) {
            int others = 0;
            for (int g = 0; g < 8; g++) {
                others += g != guest && (by >> g & 1) == 1 ? 1 : 0;
            }
            return others;
        }

        boolean would(int kind, int guest, int by) {
            int others = others(guest, by);
            return switch (kind) {
                case 0 -> holds(terms.get(guest), guest, by);
                case 1 -> would(0, guest, by) || others >= 4;
                case 2 -> would(0, guest, by) && others <= 4;
                case 4 -> would(1, guest, by) || others == 0;
                case 5 -> !would(2, guest, by);
                default -> false;
            };
        }

        /** Asked often, so kept till a guest, a kind or a term is another one. */
        private int[] afterRound;

        int round(int by) {
            if (afterRound == null) {
                afterRound = new int[lists()];
                for (int at = 0; at < lists(); at++) {
                    for (int g = 0; g < kinds.size(); g++) {
                        afterRound[at] |= would(kinds.get(g), g, at) ? 1 << g : 0;
                    }
                }
            }
            return afterRound[by];
        }

        int roundAs(int guest, int kind, int by) {
            int bit = 1 << guest;
            return round(by) & ~bit | (would(kind, guest, by) ? bit : 0);
        }

        int rounds(int from, int n) {
            int at = from;
            for (int i = 0; i < n; i++) {
                at = round(at);
            }
            return at;
        }

        int costOf(int set) {
            int sum = 0;
            for (int g = 0; g < kinds.size(); g++) {
                sum += (set >> g & 1) * costs.get(g);
            }
            return sum;
        }

        static int size(int set) {
            return Integer.bitCount(set);
        }

        // ---- guests

        long guests(String name, long[] a) {
            int g = a.length > 0 ? (int) a[0] : 0;
            switch (name) {
                case "guest":
                    if (!in(a[0], 0, 5) || !in(a[1], 0, 99)) {
                        return BEYOND;
                    }
                    if (kinds.size() == 8) {
                        return FULL;
                    }
                    kinds.add((int) a[0]);
                    costs.add((int) a[1]);
                    terms.add(null);
                    afterRound = null;
                    return kinds.size() - 1;
                case "of":
                    if (!has(g) || !in(a[1], 0, 5)) {
                        return BEYOND;
                    }
                    long[] all = {kinds.get(g), costs.get(g), list >> g & 1, round(list) >> g & 1,
                        holds(terms.get(g), g, list) ? 1 : 0, others(g, list)};
                    return all[(int) a[1]];
                case "cost":
                    return has(g) && in(a[1], 0, 99) ? costs.set(g, (int) a[1]) : BEYOND;
                case "turn":
                    afterRound = null;
                    return has(g) && in(a[1], 0, 5) ? kinds.set(g, (int) a[1]) : BEYOND;
                case "as":
                    if (!has(g) || !in(a[1], 0, 5)) {
                        return BEYOND;
                    }
                    int[] above = {-1, 0, 0, 0, 1, 2};
                    for (int kind = kinds.get(g); kind >= 0; kind = above[kind]) {
                        if (kind == a[1]) {
                            return costs.get(g);
                        }
                    }
                    return KIND;
                case "term":
                    if (!has(g)) {
                        return BEYOND;
                    }
                    String text = tape;
                    tape = "";
                    if (faultOf(text) >= 0) {
                        return -1 - faultOf(text);
                    }
                    terms.set(g, text);
                    afterRound = null;
                    return 1;
                case "feed":
                    if (!in(a[1], 1, 4)) {
                        return BEYOND;
                    }
                    if (tape.length() + a[1] > 60) {
                        return FULL;
                    }
                    byte[] four = {(byte) (a[0] >> 24), (byte) (a[0] >> 16), (byte) (a[0] >> 8), (byte) a[0]};
                    for (int i = 4 - (int) a[1]; i < 4; i++) {
                        tape += (char) (four[i] & 0xFF);
                    }
                    return tape.length();
                default:
                    int had = tape.length();
                    tape = "";
                    return had;
            }
        }

        // ---- the list

        long theList(String name, long[] a) {
            int v = (int) a[0];
            switch (name) {
                case "list": {
                    if (!in(v, 0, lists() - 1)) {
                        return BEYOND;
                    }
                    int was = list;
                    list = v;
                    return was;
                }
                case "now":
                    return in(v, 0, 4) ? new int[] {list, size(list), round(list), round(list) == list ? 1 : 0,
                        costOf(list)}[v] : BEYOND;
                case "call":
                    return has(v) ? phone(v) : BEYOND;
                case "calls": {
                    if (!in(v, 1, 20)) {
                        return BEYOND;
                    }
                    int changes = 0;
                    for (int i = 0; i < v * kinds.size(); i++) {
                        changes += phone(i % kinds.size());
                    }
                    return changes;
                }
                case "rounds":
                    if (in(v, 1, 64)) {
                        list = rounds(list, v);
                        return list;
                    }
                    return BEYOND;
                default:
                    return in(v, 0, 64) ? rounds(list, v) : BEYOND;
            }
        }

        int phone(int guest) {
            int was = list;
            list = phoned(list, guest);
            return was == list ? 0 : 1;
        }

        int phoned(int at, int guest) {
            return (round(at) >> guest & 1) == 1 ? at | 1 << guest : at & ~(1 << guest);
        }

        // ---- what settles

        long settles(String name, long[] a) {
            List<Integer> settled = new ArrayList<>();
            for (int at = 0; at < lists(); at++) {
                if (round(at) == at) {
                    settled.add(at);
                }
            }
            int v = a.length > 0 ? (int) a[0] : 0;
            switch (name) {
                case "when":
                    for (int n = 0; n <= 256; n++) {
                        if (settled.contains(rounds(list, n))) {
                            return n;
                        }
                    }
                    return NONE;
                case "ring": {
                    if (!in(v, 0, 1)) {
                        return BEYOND;
                    }
                    List<Integer> way = new ArrayList<>();
                    int at = list;
                    while (!way.contains(at)) {
                        way.add(at);
                        at = round(at);
                    }
                    return v == 0 ? way.indexOf(at) : way.size() - way.indexOf(at);
                }
                case "fewest": case "first": {
                    int[] need = callsNeeded(settled);
                    if (need[list] == Integer.MAX_VALUE) {
                        return NONE;
                    }
                    if (name.equals("fewest")) {
                        return need[list];
                    }
                    for (int g = 0; g < kinds.size(); g++) {
                        if (need[phoned(list, g)] == need[list] - 1) {
                            return g;
                        }
                    }
                    return NONE;
                }
                case "settled":
                    return settled.size();
                case "ith":
                    return v < 0 ? BEYOND : v < settled.size() ? settled.get(v) : NONE;
                case "sure":
                    if (!in(v, 0, 3)) {
                        return BEYOND;
                    }
                    if (settled.isEmpty()) {
                        return NONE;
                    }
                    return switch (v) {
                        case 0 -> settled.stream().reduce(-1, (x, y) -> x & y);
                        case 1 -> settled.stream().reduce(0, (x, y) -> x | y);
                        case 2 -> settled.stream().mapToInt(Model::size).max().getAsInt();
                        default -> settled.stream().mapToInt(Model::size).min().getAsInt();
                    };
                case "basin": {
                    int from = 0;
                    for (int at = 0; at < lists(); at++) {
                        from += settled.contains(rounds(at, 256)) ? 1 : 0;
                    }
                    return from;
                }
                default: {
                    if (!has(v) || !in(a[1], 0, 1)) {
                        return BEYOND;
                    }
                    int above = 0;
                    for (int at = 0; at < lists(); at++) {
                        int end = rounds(at, 256);
                        above += settled.contains(end) && (end >> v & 1) == 1 ? 1 : 0;
                    }
                    int common = BigInteger.valueOf(above).gcd(BigInteger.valueOf(lists())).intValue();
                    return a[1] == 0 ? above / common : lists() / common;
                }
            }
        }

        /** From every list, by going over all of them till nothing gets shorter. */
        int[] callsNeeded(List<Integer> settled) {
            int[] need = new int[lists()];
            Arrays.fill(need, Integer.MAX_VALUE);
            settled.forEach(at -> need[at] = 0);
            boolean going = true;
            while (going) {
                going = false;
                for (int at = 0; at < lists(); at++) {
                    for (int g = 0; g < kinds.size(); g++) {
                        int then = need[phoned(at, g)];
                        if (then != Integer.MAX_VALUE && then + 1 < need[at]) {
                            need[at] = then + 1;
                            going = true;
                        }
                    }
                }
            }
            return need;
        }

        // ---- whom to get, who spoils it

        int lastBy(int bought, int keptOut) {
            int at = bought;
            for (int n = 0; n < 64; n++) {
                at = (round(at) | bought) & ~keptOut;
            }
            return at;
        }

        long whom(String name, long[] a) {
            int v = a.length > 0 ? (int) a[0] : 0;
            switch (name) {
                case "last":
                    return in(v, 0, lists() - 1) ? lastBy(v, 0) : BEYOND;
                case "buys": case "price": {
                    if (!in(v, 0, 8)) {
                        return BEYOND;
                    }
                    List<Integer> sets = new ArrayList<>();
                    for (int set = 0; set < lists(); set++) {
                        if (size(lastBy(set, 0)) >= v) {
                            sets.add(set);
                        }
                    }
                    sets.sort((x, y) -> costOf(x) != costOf(y) ? costOf(x) - costOf(y)
                        : size(x) != size(y) ? size(x) - size(y) : x - y);
                    return sets.isEmpty() ? NONE : name.equals("buys") ? sets.get(0) : costOf(sets.get(0));
                }
                case "spoils": {
                    List<Integer> guests = new ArrayList<>();
                    for (int g = 0; g < kinds.size(); g++) {
                        guests.add(g);
                    }
                    guests.sort((x, y) -> size(lastBy(0, 1 << x)) - size(lastBy(0, 1 << y)));
                    return guests.isEmpty() ? NONE : guests.get(0);
                }
                case "invites": {
                    if (!in(v, 0, 8) || !in(a[1], 0, 8) || v > a[1]) {
                        return BEYOND;
                    }
                    List<Integer> sets = new ArrayList<>();
                    for (int asked = 0; asked < lists(); asked++) {
                        int last = lastBy(0, ~asked);
                        if (in(size(last), v, a[1]) && (round(last) & asked) == (last & asked)) {
                            sets.add(asked);
                        }
                    }
                    sets.sort((x, y) -> size(x) - size(y));
                    return sets.isEmpty() ? NONE : sets.get(0);
                }
                case "against":
                    if (!has(v) || !has(a[1]) || v == a[1]) {
                        return BEYOND;
                    }
                    return settledWith(1 << v) > 0 && settledWith(1 << a[1]) > 0
                        && settledWith(1 << v | 1 << a[1]) == 0 ? 1 : 0;
                case "minds": {
                    if (!has(v)) {
                        return BEYOND;
                    }
                    int set = 0;
                    for (int at = 0; at < lists(); at++) {
                        for (int g = 0; g < kinds.size(); g++) {
                            if (g != v && (round(at) >> g & 1) != (round(at ^ 1 << v) >> g & 1)) {
                                set |= 1 << g;
                            }
                        }
                    }
                    return set;
                }
                default: {
                    if (!has(v)) {
                        return BEYOND;
                    }
                    int own = kinds.get(v);
                    int[] settling = new int[6];
                    for (int kind = 0; kind < 6; kind++) {
                        kinds.set(v, kind);
                        afterRound = null;
                        settling[kind] = settledWith(0);
                    }
                    kinds.set(v, own);
                    afterRound = null;
                    int most = Arrays.stream(settling).max().getAsInt();
                    for (int kind = 0; ; kind++) {
                        if (settling[kind] == most) {
                            return kind;
                        }
                    }
                }
            }
        }

        int settledWith(int set) {
            int found = 0;
            for (int at = 0; at < lists(); at++) {
                found += round(at) == at && (at & set) == set ? 1 : 0;
            }
            return found;
        }

        // ---- sheets: numbers without end, brought into their bits

        static BigInteger cut(BigInteger v, int bits) {
            BigInteger all = BigInteger.ONE.shiftLeft(bits);
            BigInteger low = v.mod(all);
            return low.compareTo(all.shiftRight(1)) < 0 ? low : low.subtract(all);
        }

        long paper(String name, long[] a) {
            if (!in(a[0], 0, 3)) {
                return BEYOND;
            }
            int s = (int) a[0];
            if (name.equals("sheet")) {
                return laid(s, (int) a[1], a[2]);
            }
            if (name.equals("copy")) {
                return copied(s, a[1], a[2], a[3], a[4]);
            }
            if (sheets[s] == null) {
                return MISSING;
            }
            switch (name) {
                case "write": {
                    if (!in(a[1], 0, sheets[s].length - 1)) {
                        return BEYOND;
                    }
                    isNumberOfWrite = true;
                    long was = sheets[s][(int) a[1]].longValueExact();
                    sheets[s][(int) a[1]] = cut(BigInteger.valueOf(a[2]), bits[s]);
                    return was;
                }
                case "lays":
                    list = 0;
                    for (int g = 0; g < kinds.size(); g++) {
                        boolean on = g < sheets[s].length && sheets[s][g].signum() != 0;
                        list |= on ? 1 << g : 0;
                    }
                    return list;
                case "book":
                    for (int i = 0; i < sheets[s].length; i++) {
                        sheets[s][i] = cut(BigInteger.valueOf(rounds(list, i)), bits[s]);
                    }
                    return sheets[s].length;
                default:
                    return pairs(s);
            }
        }

        long laid(int s, int width, long n) {
            if (!List.of(0, 8, 16, 64).contains(width)) {
                return BEYOND;
            }
            if (n < 0) {
                return SIZE;
            }
            if (n > 40) {
                return BEYOND;
            }
            bits[s] = width;
            sheets[s] = width == 0 ? null : new BigInteger[(int) n];
            if (width == 0) {
                return 0;
            }
            Arrays.fill(sheets[s], BigInteger.ZERO);
            return n;
        }

        long copied(int s, long from, long t, long to, long n) {
            if (!in(t, 0, 3)) {
                return BEYOND;
            }
            BigInteger[] there = sheets[(int) t];
            if (sheets[s] == null || there == null) {
                return MISSING;
            }
            if (bits[s] != bits[(int) t]) {
                return KIND;
            }
            if (from < 0 || to < 0 || n < 0 || from + n > sheets[s].length || to + n > there.length) {
                return BEYOND;
            }
            BigInteger[] were = sheets[s].clone();
            for (int i = 0; i < n; i++) {
                there[(int) to + i] = were[(int) from + i];
            }
            return n;
        }

        int pairs(int s) {
            int[] lists = new int[sheets[s].length];
            for (int i = 0; i < lists.length; i++) {
                BigInteger low = sheets[s][i].mod(BigInteger.ONE.shiftLeft(bits[s]));
                if (low.bitLength() > kinds.size()) {
                    return 0;
                }
                lists[i] = low.intValue();
            }
            int pairs = 0;
            for (int g = 0; g < kinds.size(); g++) {
                for (int kind = 0; kind < 6; kind++) {
                    boolean so = true;
                    for (int i = 0; i + 1 < lists.length; i++) {
                        so &= roundAs(g, kind, lists[i]) == lists[i + 1];
                    }
                    pairs += so ? 1 : 0;
                }
            }
            return pairs;
        }

        // ---- images

        long images(String name, long[] a) {
            switch (name) {
                case "image":
                    kept = new Model();
                    kept.section(this);
                    return 1;
                case "undo":
                    if (kept == null) {
                        return NONE;
                    }
                    section(kept);
                    return kinds.size();
                case "tear": {
                    int was = kept == null ? 0 : 1;
                    kept = null;
                    return was;
                }
                case "count": {
                    int told = 0;
                    for (int g = 0; g < kinds.size(); g++) {
                        told |= terms.get(g) == null ? 0 : 1 << g;
                    }
                    int[] all = {kinds.size(), tape.length(), costOf(lists() - 1), told};
                    return in(a[0], 0, 3) ? all[(int) a[0]] : BEYOND;
                }
                case "status":
                    if (!in(a[0], -1, 6)) {
                        return BEYOND;
                    }
                    return a[0] < 0 ? findings.values().stream().mapToInt(x -> x).sum()
                        : findings.getOrDefault(BEYOND - a[0], 0);
                default:
                    throw new IllegalStateException("the model knows no " + name);
            }
        }

        void section(Model from) {
            kinds = new ArrayList<>(from.kinds);
            costs = new ArrayList<>(from.costs);
            terms = new ArrayList<>(from.terms);
            list = from.list;
            afterRound = null;
        }
    }
}
