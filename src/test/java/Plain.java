import java.util.ArrayDeque;
import java.util.ArrayList;
import java.util.Arrays;
import java.util.Deque;
import java.util.List;
import java.util.regex.Matcher;
import java.util.regex.Pattern;

/**
 * The document in its most literal and slowest form: every answer is reckoned from the definitions in 'Terms' by
 * counting cases, so that the class's quicker ways can be compared with it.
 */
final class Plain {
    static final long P = 1_000_003;

    static final class State {
        int things;
        int[] weights = new int[0];
        boolean[][] pairs = new boolean[0][0];
        long[][] rows = new long[4][0];

        State copy() {
            State s = new State();
            s.things = things;
            s.weights = weights.clone();
            s.pairs = new boolean[things][];
            for (int i = 0; i < things; i++) {
                s.pairs[i] = pairs[i].clone();
            }
            for (int i = 0; i < 4; i++) {
                s.rows[i] = rows[i].clone();
            }
            return s;
        }

        static State of(int things) {
            State s = new State();
            s.things = things;
            int sets = things == 0 ? 0 : 1 << things;
            s.weights = new int[sets];
            s.pairs = new boolean[things][things];
            for (int i = 0; i < 4; i++) {
                s.rows[i] = new long[sets];
            }
            return s;
        }
    }

    private State s = State.of(0);
    private final Deque<State> acts = new ArrayDeque<>();
    private final State[] images = new State[2];
    private String tape = "";
    private int fault;

    // ---- tape and text

    int feed(int... five) {
        if (tape.length() + 20 > 540) {
            return -1;
        }
        StringBuilder more = new StringBuilder(tape);
        for (int v : five) {
            for (int shift = 24; shift >= 0; shift -= 8) {
                more.append((char) ((v >>> shift) & 255));
            }
        }
        tape = more.toString();
        return tape.length();
    }

    boolean end(int n) {
        if (n < 0 || n > tape.length()) {
            return false;
        }
        tape = tape.substring(0, n);
        return true;
    }

    private record Token(char kind, String text, int at) {
    }

    private static final class Fault extends Exception {
        private static final long serialVersionUID = 1;
        final int kind;
        final int at;

        Fault(int kind, int at) {
            super(null, null, false, false);
            this.kind = kind;
            this.at = at;
        }
    }

    private static final Pattern PIECE = Pattern.compile("[ \n]+|[a-z0-9]+|[^ \na-z0-9]");

    private static List<Token> tokens(String text) {
        List<Token> found = new ArrayList<>();
        Matcher m = PIECE.matcher(text);
        while (m.find()) {
            String t = m.group();
            if (t.matches("[ \n]+") || m.start() >= 500) {
                continue;
            }
            char kind = t.matches("[a-z]+") ? 'w' : t.matches("[0-9]{1,3}") ? 'n' : t.equals(";") ? ';' : '?';
            found.add(new Token(kind, t, m.start()));
        }
        found.add(new Token('e', "", Math.min(500, text.length())));
        return found;
    }

    int text() {
        String text = tape;
        tape = "";
        List<Token> ts = tokens(text);
        try {
            int lines = readLines(ts, text.length() > 500);
            fault = 0;
            acts.clear();
            return lines;
        } catch (Fault f) {
            fault = f.kind;
            return -1 - f.at;
        }
    }

    private int readLines(List<Token> ts, boolean tooLong) throws Fault {
        State made = State.of(0);
        int i = 0;
        int lines = 0;
        while (ts.get(i).kind != 'e') {
            Token head = ts.get(i++);
            if (lines == 0) {
                need(head.text.equals("things"), 1, head);
                Token n = ts.get(i++);
                need(n.kind == 'n', 1, n);
                need(Integer.parseInt(n.text) >= 1 && Integer.parseInt(n.text) <= 8, 2, n);
                made = State.of(Integer.parseInt(n.text));
            } else if (head.text.equals("set")) {
                int set = wordSet(ts.get(i), made.things);
                need(made.weights[set] == 0, 4, ts.get(i));
                made.weights[set] = 1;
                if (ts.get(++i).kind == 'n') {
                    made.weights[set] = Integer.parseInt(ts.get(i).text);
                    need(made.weights[set] > 0, 2, ts.get(i++));
                }
            } else if (head.text.equals("pair")) {
                Token w = ts.get(i++);
                int set = wordSet(w, made.things);
                need(w.text.length() == 2, 3, w);
                int a = w.text.charAt(0) - 'a';
                int b = w.text.charAt(1) - 'a';
                need(set != 0 && !made.pairs[a][b], 4, w);
                made.pairs[a][b] = true;
                made.pairs[b][a] = true;
            } else {
                throw new Fault(1, head.at);
            }
            need(ts.get(i).kind == ';', 1, ts.get(i));
            i++;
            lines++;
        }
        need(!tooLong, 1, ts.get(i));
        s = made;
        return lines;
    }

    private static void need(boolean is, int kind, Token t) throws Fault {
        if (!is) {
            throw new Fault(kind, t.at);
        }
    }

    private static int wordSet(Token w, int things) throws Fault {
        need(w.kind == 'w', 1, w);
        int set = 0;
        for (char c : w.text.toCharArray()) {
            need(c - 'a' < things && (set & 1 << (c - 'a')) == 0, 3, w);
            set |= 1 << (c - 'a');
        }
        return set;
    }

    int fault() {
        return fault;
    }

    // ---- what there is

    private int told() {
        return (int) Arrays.stream(s.weights).filter(w -> w > 0).count();
    }

    private int pairsIn(int set) {
        int n = 0;
        for (int a = 0; a < s.things; a++) {
            for (int b = 0; b < a; b++) {
                n += has(set, a) && has(set, b) && s.pairs[a][b] ? 1 : 0;
            }
        }
        return n;
    }

    private static boolean has(int set, int thing) {
        return (set >> thing & 1) == 1;
    }

    private boolean isSet(int set) {
        return set >= 0 && set < s.weights.length;
    }

    private boolean isThing(int t) {
        return t >= 0 && t < s.things;
    }

    private boolean isRow(int r) {
        return r >= 0 && r < 4 && s.things > 0;
    }

    private int all() {
        return s.weights.length - 1;
    }

    int now(int what) {
        switch (what) {
            case 0: return s.things;
            case 1: return told();
            case 2: return s.things == 0 ? 0 : pairsIn(all());
            case 3: return acts.size();
            case 4: return tape.length();
            default: return -1;
        }
    }

    int weight(int set) {
        return isSet(set) ? s.weights[set] : -1;
    }

    int joined(int t) {
        if (!isThing(t)) {
            return -1;
        }
        int bits = 0;
        for (int b = 0; b < s.things; b++) {
            bits += s.pairs[t][b] ? 1 << b : 0;
        }
        return bits;
    }

    int at(int row, int set) {
        return isRow(row) && isSet(set) ? (int) s.rows[row][set] : -1;
    }

    // ---- rows

    private void act() {
        acts.addLast(s.copy());
        if (acts.size() > 8) {
            acts.removeFirst();
        }
    }

    int put(int row, int set, int v) {
        if (!isRow(row) || !isSet(set)) {
            return -1;
        }
        act();
        s.rows[row][set] = ((v % P) + P) % P;
        return at(row, set);
    }

    private int become(int row, long[] numbers) {
        act();
        s.rows[row] = numbers;
        return at(row, all());
    }

    int lay(int row, int what) {
        if (!isRow(row) || what < 0 || what > 7) {
            return -1;
        }
        long[] made = new long[s.weights.length];
        for (int set = 0; set <= all(); set++) {
            int n = Integer.bitCount(set);
            switch (what) {
                case 0: made[set] = s.weights[set]; break;
                case 1: made[set] = s.weights[set] > 0 ? 1 : 0; break;
                case 2: made[set] = pairsIn(set) == 0 ? 1 : 0; break;
                case 3: made[set] = pairsIn(set) == n * (n - 1) / 2 ? 1 : 0; break;
                case 4: made[set] = (1L << pairsIn(set)) % P; break;
                case 5: made[set] = hangsBy(set, pairList(set)) ? 1 : 0; break;
                case 6: made[set] = n; break;
                default: made[set] = set == 0 ? 1 : 0;
            }
        }
        return become(row, made);
    }

    private long[] summed(long[] row, boolean over, boolean back) {
        long[] made = new long[row.length];
        for (int a = 0; a < row.length; a++) {
            for (int b = 0; b < row.length; b++) {
                boolean counts = over ? (a & ~b) == 0 : (b & ~a) == 0;
                boolean minus = back && Integer.bitCount(a ^ b) % 2 == 1;
                made[a] += !counts ? 0 : minus ? -row[b] : row[b];
            }
            made[a] = Math.floorMod(made[a], P);
        }
        return made;
    }

    int sum(int row, boolean over) {
        return sumOrBack(row, over, false);
    }

    int back(int row, boolean over) {
        return sumOrBack(row, over, true);
    }

    private int sumOrBack(int row, boolean over, boolean back) {
        if (!isRow(row)) {
            return -1;
        }
        long[] made = summed(s.rows[row], over, back);
        become(row, made);
        return at(row, over ? 0 : all());
    }

    private static long[] product(long[] f, long[] g, int how) {
        long[] made = new long[f.length];
        for (int a = 0; a < f.length; a++) {
            for (int b = 0; b < g.length; b++) {
                int to = how == 2 ? a & b : how == 3 ? a ^ b : a | b;
                if (how != 0 || (a & b) == 0) {
                    made[to] = (made[to] + f[a] * g[b]) % P;
                }
            }
        }
        return made;
    }

    int times(int f, int g, int how, int to) {
        if (!isRow(f) || !isRow(g) || !isRow(to) || how < 0 || how > 6) {
            return -1;
        }
        if (how <= 3) {
            return become(to, product(s.rows[f], s.rows[g], how));
        }
        long[] made = new long[s.weights.length];
        for (int i = 0; i < made.length; i++) {
            long x = s.rows[f][i];
            long y = s.rows[g][i];
            made[i] = Math.floorMod(how == 4 ? x * y : how == 5 ? x + y : x - y, P);
        }
        return become(to, made);
    }

    private long[] unit() {
        long[] one = new long[s.weights.length];
        one[0] = 1;
        return one;
    }

    int power(int f, int k, int to) {
        if (!isRow(f) || !isRow(to) || k < 0 || k > 99) {
            return -1;
        }
        long[] made = unit();
        for (int i = 0; i < k; i++) {
            made = product(made, s.rows[f], 0);
        }
        return become(to, made);
    }

    int inverse(int f, int to) {
        if (!isRow(f) || !isRow(to) || s.rows[f][0] == 0) {
            return -1;
        }
        long c = 1;
        for (int i = 0; i < P - 2; i++) {
            c = c * s.rows[f][0] % P;
        }
        long[] made = new long[s.weights.length];
        for (int set = 0; set <= all(); set++) {
            long rest = set == 0 ? 1 : 0;
            for (int a = 1; a <= set; a++) {
                if ((a & ~set) == 0) {
                    rest -= s.rows[f][a] * made[set ^ a] % P;
                }
            }
            made[set] = Math.floorMod(rest, P) * c % P;
        }
        return become(to, made);
    }

    /** All partings of a set, each a list of sets, the one with the least thing first. */
    private static void partings(int left, List<Integer> ahead, List<List<Integer>> found) {
        if (left == 0) {
            found.add(new ArrayList<>(ahead));
            return;
        }
        for (int a = 1; a <= left; a++) {
            if ((a & ~left) == 0 && (a & left & -left) != 0) {
                ahead.add(a);
                partings(left ^ a, ahead, found);
                ahead.remove(ahead.size() - 1);
            }
        }
    }

    private static final List<List<List<Integer>>> PARTINGS = new ArrayList<>();

    static List<List<Integer>> partingsOf(int set) {
        while (PARTINGS.size() <= set) {
            List<List<Integer>> found = new ArrayList<>();
            partings(PARTINGS.size(), new ArrayList<>(), found);
            PARTINGS.add(found);
        }
        return PARTINGS.get(set);
    }

    private static long way(List<Integer> parting, long[] f) {
        long made = 1;
        for (int a : parting) {
            made = made * f[a] % P;
        }
        return made;
    }

    int allWays(int f, int to) {
        if (!isRow(f) || !isRow(to) || s.rows[f][0] != 0) {
            return -1;
        }
        long[] made = new long[s.weights.length];
        for (int set = 0; set <= all(); set++) {
            for (List<Integer> parting : partingsOf(set)) {
                made[set] = (made[set] + way(parting, s.rows[f])) % P;
            }
        }
        return become(to, made);
    }

    int roots(int f, int to) {
        if (!isRow(f) || !isRow(to) || s.rows[f][0] != 1) {
            return -1;
        }
        long[] made = new long[s.weights.length];
        for (int set = 1; set <= all(); set++) {
            long others = 0;
            for (List<Integer> parting : partingsOf(set)) {
                others += parting.size() > 1 ? way(parting, made) : 0;
            }
            made[set] = Math.floorMod(s.rows[f][set] - others, P);
        }
        return become(to, made);
    }

    // ---- coverings and partings

    int covers(int set, int k) {
        if (!isSet(set) || k < 0 || k > 8) {
            return -1;
        }
        long[] made = unit();
        for (int i = 0; i < k; i++) {
            long[] more = new long[made.length];
            for (int a = 0; a <= all(); a++) {
                for (int b = 0; b <= all() && s.weights[a] > 0; b++) {
                    more[a | b] = (more[a | b] + made[b]) % P;
                }
            }
            made = more;
        }
        return (int) made[set];
    }

    private boolean toldAll(List<Integer> parting) {
        return parting.stream().allMatch(a -> s.weights[a] > 0);
    }

    int partings(int set, int k) {
        if (!isSet(set) || k < 0 || k > 8) {
            return -1;
        }
        return (int) partingsOf(set).stream().filter(p -> p.size() == k && toldAll(p)).count();
    }

    private int price(List<Integer> parting) {
        return parting.stream().mapToInt(a -> s.weights[a]).sum();
    }

    /** The cheapest, of those the first by its sets' numbers in order; null, if there is none. */
    private List<Integer> cheapestParting(int set) {
        List<Integer> best = null;
        for (List<Integer> p : isSet(set) ? partingsOf(set) : List.<List<Integer>>of()) {
            if (toldAll(p) && (best == null || price(p) < price(best)
                    || price(p) == price(best) && ahead(p, best))) {
                best = p;
            }
        }
        return best;
    }

    private static boolean ahead(List<Integer> p, List<Integer> q) {
        for (int i = 0; i < p.size() && i < q.size(); i++) {
            if (!p.get(i).equals(q.get(i))) {
                return p.get(i) < q.get(i);
            }
        }
        return false;
    }

    int cheapest(int set) {
        List<Integer> best = cheapestParting(set);
        return best == null ? -1 : price(best);
    }

    /** -2 where the call throws. */
    int part(int set, int i) {
        List<Integer> best = cheapestParting(set);
        return best == null || i < 0 || i >= best.size() ? -2 : best.get(i);
    }

    // ---- colours

    private boolean ends(int set, int k, int[] colours, int thing) {
        if (thing == s.things) {
            return true;
        }
        if (!has(set, thing)) {
            return ends(set, k, colours, thing + 1);
        }
        for (int c = 0; c < k; c++) {
            boolean fits = true;
            for (int b = 0; b < thing; b++) {
                fits &= !(has(set, b) && s.pairs[thing][b] && colours[b] == c);
            }
            colours[thing] = c;
            if (fits && ends(set, k, colours, thing + 1)) {
                return true;
            }
        }
        return false;
    }

    int colours(int set) {
        if (!isSet(set)) {
            return -1;
        }
        int k = 0;
        while (!ends(set, k, new int[8], 0)) {
            k++;
        }
        return k;
    }

    int colour(int set, int thing) {
        if (!isSet(set) || !isThing(thing) || !has(set, thing)) {
            return -1;
        }
        int[] colours = new int[8];
        ends(set, colours(set), colours, 0);
        return colours[thing];
    }

    long colourings(int set, int k) {
        if (!isSet(set) || k < 0 || k > 99) {
            return -1;
        }
        long made = 0;
        for (List<Integer> p : partingsOf(set)) {
            long ways = 1;
            for (int i = 0; i < p.size(); i++) {
                ways *= pairsIn(p.get(i)) == 0 ? Math.max(0, k - i) : 0;
            }
            made += ways;
        }
        return made;
    }

    private List<int[]> pairList(int set) {
        List<int[]> found = new ArrayList<>();
        for (int a = 0; a < s.things; a++) {
            for (int b = 0; b < a; b++) {
                if (has(set, a) && has(set, b) && s.pairs[a][b]) {
                    found.add(new int[] {a, b});
                }
            }
        }
        return found;
    }

    private static boolean hangsBy(int set, List<int[]> pairs) {
        int[] group = new int[8];
        for (int i = 0; i < 8; i++) {
            group[i] = i;
        }
        for (int[] p : pairs) {
            int from = group[p[0]];
            for (int i = 0; i < 8; i++) {
                group[i] = group[i] == from ? group[p[1]] : group[i];
            }
        }
        int seen = 0;
        for (int i = 0; i < 8; i++) {
            seen |= has(set, i) ? 1 << group[i] : 0;
        }
        return Integer.bitCount(seen) == 1;
    }

    /** By taking a pair or not, counting ways over how the things are grouped so far: exact for any pairs. */
    int hangs(int set) {
        if (!isSet(set)) {
            return -1;
        }
        java.util.Map<String, Long> ways = new java.util.HashMap<>();
        ways.put("01234567", 1L);
        for (int[] p : pairList(set)) {
            java.util.Map<String, Long> more = new java.util.HashMap<>(ways);
            for (java.util.Map.Entry<String, Long> e : ways.entrySet()) {
                char x = e.getKey().charAt(p[0]);
                char y = e.getKey().charAt(p[1]);
                String merged = e.getKey().replace((char) Math.max(x, y), (char) Math.min(x, y));
                more.merge(merged, e.getValue(), Long::sum);
            }
            ways = more;
        }
        long made = 0;
        for (java.util.Map.Entry<String, Long> e : ways.entrySet()) {
            int seen = 0;
            for (int i = 0; i < 8; i++) {
                seen |= has(set, i) ? 1 << (e.getKey().charAt(i) - '0') : 0;
            }
            made += Integer.bitCount(seen) == 1 ? e.getValue() : 0;
        }
        return (int) made;
    }

    // ---- changes

    int weigh(int set, int w) {
        if (!isSet(set) || w < 0 || w > 999 || s.weights[set] == w) {
            return -1;
        }
        act();
        int had = s.weights[set];
        s.weights[set] = w;
        return had;
    }

    int join(int a, int b, boolean is) {
        if (!isThing(a) || !isThing(b) || a == b || s.pairs[a][b] == is) {
            return -1;
        }
        act();
        s.pairs[a][b] = is;
        s.pairs[b][a] = is;
        return pairsIn(all());
    }

    int name(int a, int b) {
        if (!isThing(a) || !isThing(b) || a == b) {
            return -1;
        }
        act();
        State old = s.copy();
        int one = 0;
        for (int set = 0; set <= all(); set++) {
            int to = 0;
            for (int t = 0; t < s.things; t++) {
                to |= has(set, t) ? 1 << (t == a ? b : t == b ? a : t) : 0;
            }
            s.weights[to] = old.weights[set];
            for (int r = 0; r < 4; r++) {
                s.rows[r][to] = old.rows[r][set];
            }
            one += has(set, a) != has(set, b) && old.weights[set] > 0 ? 1 : 0;
        }
        for (int t = 0; t < s.things; t++) {
            for (int u = 0; u < s.things; u++) {
                int t2 = t == a ? b : t == b ? a : t;
                int u2 = u == a ? b : u == b ? a : u;
                s.pairs[t2][u2] = old.pairs[t][u];
            }
        }
        return one;
    }

    private int seed;

    private int draw(int n) {
        seed = seed * 1103515245 + 12345;
        return (seed >>> 8) % n;
    }

    int drawn(int n, int from) {
        if (n < 1 || n > 60) {
            return -1;
        }
        if (s.things == 0) {
            return 0;
        }
        act();
        seed = from;
        for (int i = 0; i < n; i++) {
            int kind = draw(3);
            if (kind == 0) {
                int a = draw(s.things);
                int b = draw(s.things);
                if (a != b) {
                    s.pairs[a][b] = !s.pairs[a][b];
                    s.pairs[b][a] = s.pairs[a][b];
                }
            } else if (kind == 1) {
                int set = draw(s.weights.length);
                s.weights[set] = draw(100) + 1;
            } else {
                s.weights[draw(s.weights.length)] = 0;
            }
        }
        return told();
    }

    int undo() {
        if (acts.isEmpty()) {
            return -1;
        }
        s = acts.removeLast();
        return acts.size();
    }

    boolean image(int k) {
        if (k != 0 && k != 1) {
            return false;
        }
        images[k] = s.copy();
        return true;
    }

    boolean restore(int k) {
        if (k != 0 && k != 1 || images[k] == null) {
            return false;
        }
        s = images[k].copy();
        acts.clear();
        return true;
    }
}
