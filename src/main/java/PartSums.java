import java.util.NoSuchElementException;

/** Sums over all parts of a set; see README.md and the document's numbered promises. */
public final class PartSums {
    public static final int NONE = -1;

    private static final int PRIME = 1_000_003;
    /** Twice this is 1 modulo PRIME. */
    private static final int HALF = 500_002;
    private static final int MOST_THINGS = 8;
    private static final int MOST_SETS = 256;
    private static final int MOST_WEIGHT = 999;
    private static final int MOST_FACTORS = 99;
    private static final int MOST_PARTS = 8;
    private static final int MOST_DEEDS = 60;

    private static final int ROWS = 4;
    /** The weights stand as one more line behind the rows, so that acts keep them and names change in them alike. */
    private static final int WEIGHTS = 4;
    private static final int LINES = 5;

    private static final int APART = 0;
    private static final int TOGETHER = 1;
    private static final int COMMON = 2;
    private static final int UNLIKE = 3;
    private static final int ADDED = 5;
    private static final int LESS = 6;

    private static final int LAY_TOLD = 1;
    private static final int LAY_FREE = 2;
    private static final int LAY_FULL = 3;
    private static final int LAY_TWOS = 4;
    private static final int LAY_HANGING = 5;
    private static final int LAY_THINGS = 6;
    private static final int LAY_LAST = 7;

    /** Above every price: eight sets of 999 are below 8,000. */
    private static final int NO_PRICE = 1_000_000;

    private final Ground ground = new Ground();
    private final Ground firstImage = new Ground();
    private final Ground secondImage = new Ground();
    private final Acts acts = new Acts();
    private final Reader reader = new Reader();
    private final Series series = new Series();
    private final int[] left = new int[MOST_SETS];
    private final int[] right = new int[MOST_SETS];
    private final int[] classes = new int[MOST_THINGS];

    public PartSums() {
    }

    // ---- the tape and the text

    public int feed(int a, int b, int c, int d, int e) {
        if (!reader.hasRoom()) {
            return NONE;
        }
        reader.take(a);
        reader.take(b);
        reader.take(c);
        reader.take(d);
        reader.take(e);
        return reader.length;
    }

    public boolean end(int n) {
        if (n < 0 || n > reader.length) {
            return false;
        }
        reader.length = n;
        return true;
    }

    public int text() {
        int lines = reader.readAll();
        reader.length = 0;
        if (reader.kindOfFault != 0) {
            return -1 - reader.place;
        }
        ground.begin(reader.things, reader.pairs, reader.weights);
        acts.forget();
        return lines;
    }

    public int fault() {
        return reader.kindOfFault;
    }

    // ---- what there is

    public int now(int what) {
        switch (what) {
            case 0:
                return ground.things;
            case 1:
                return ground.countTold();
            case 2:
                return ground.countPairs();
            case 3:
                return acts.kept;
            case 4:
                return reader.length;
            default:
                return NONE;
        }
    }

    public int weight(int set) {
        return ground.hasSet(set) ? ground.lines[WEIGHTS][set] : NONE;
    }

    public int joined(int thing) {
        return ground.hasThing(thing) ? ground.mates(thing) : NONE;
    }

    public int at(int row, int set) {
        return ground.hasRow(row) && ground.hasSet(set) ? ground.lines[row][set] : NONE;
    }

    // ---- rows

    public int put(int row, int set, int v) {
        if (!ground.hasRow(row) || !ground.hasSet(set)) {
            return NONE;
        }
        acts.keepLine(ground, row);
        ground.lines[row][set] = reduce(v);
        return ground.lines[row][set];
    }

    public int lay(int row, int what) {
        if (!ground.hasRow(row) || what < 0 || what > LAY_LAST) {
            return NONE;
        }
        measureAll(ground, what, left);
        for (int set = 0; set < ground.countSets(); set++) {
            left[set] = reduce(left[set]);
        }
        return settle(left, row);
    }

    public int sum(int row, boolean over) {
        return transformRow(row, over, false);
    }

    public int back(int row, boolean over) {
        return transformRow(row, over, true);
    }

    public int times(int f, int g, int how, int to) {
        if (!ground.hasRow(f) || !ground.hasRow(g) || !ground.hasRow(to) || how < APART || how > LESS) {
            return NONE;
        }
        if (how == APART) {
            multiplyApart(ground.lines[f], ground.lines[g]);
        } else {
            multiplyTransformed(ground.lines[f], ground.lines[g], how);
        }
        return settle(left, to);
    }

    public int power(int f, int k, int to) {
        if (!ground.hasRow(f) || !ground.hasRow(to) || k < 0 || k > MOST_FACTORS) {
            return NONE;
        }
        series.slopesOfPower(ground.lines[f][0], k);
        return composeRow(f, to);
    }

    public int inverse(int f, int to) {
        if (!ground.hasRow(f) || !ground.hasRow(to) || ground.lines[f][0] == 0) {
            return NONE;
        }
        series.slopesOfInverse(ground.lines[f][0]);
        return composeRow(f, to);
    }

    public int allWays(int f, int to) {
        if (!ground.hasRow(f) || !ground.hasRow(to) || ground.lines[f][0] != 0) {
            return NONE;
        }
        series.slopesOfAllWays();
        return composeRow(f, to);
    }

    public int roots(int f, int to) {
        if (!ground.hasRow(f) || !ground.hasRow(to) || ground.lines[f][0] != 1) {
            return NONE;
        }
        series.slopesOfRoots();
        return composeRow(f, to);
    }

    // ---- coverings and partings

    public int covers(int set, int k) {
        if (!ground.hasSet(set) || k < 0 || k > MOST_PARTS) {
            return NONE;
        }
        measureAll(ground, LAY_TOLD, left);
        transform(left, ground.things, TOGETHER, false);
        for (int s = 0; s < ground.countSets(); s++) {
            left[s] = raise(left[s], k);
        }
        transform(left, ground.things, TOGETHER, true);
        return left[set];
    }

    public int partings(int set, int k) {
        if (!ground.hasSet(set) || k < 0 || k > MOST_PARTS) {
            return NONE;
        }
        measureAll(ground, LAY_TOLD, left);
        series.slopesOfCount(k);
        series.compose(left, ground.things, true);
        return (int) series.grown[set];
    }

    public int cheapest(int set) {
        if (!ground.hasSet(set)) {
            return NONE;
        }
        priceParts(set);
        return left[set] < NO_PRICE ? left[set] : NONE;
    }

    public int part(int set, int i) throws NoSuchElementException {
        int found = partOrNone(set, i);
        if (found == NONE) {
            throw new NoSuchElementException("there is no such set of a cheapest parting");
        }
        return found;
    }

    // ---- colours, and what hangs together

    public int colours(int set) {
        return ground.hasSet(set) ? paintFewest(set) : NONE;
    }

    public int colour(int set, int thing) {
        if (!ground.hasSet(set) || !ground.hasThing(thing) || (set >> thing & 1) == 0) {
            return NONE;
        }
        int fewest = paintFewest(set);
        for (int c = 0; c < fewest && c < MOST_THINGS; c++) {
            if ((classes[c] >> thing & 1) == 1) {
                return c;
            }
        }
        return NONE;
    }

    public long colourings(int set, int k) {
        if (!ground.hasSet(set) || k < 0 || k > MOST_FACTORS) {
            return NONE;
        }
        measureAll(ground, LAY_FREE, left);
        series.slopesOfChoices(k);
        series.compose(left, ground.things, true);
        return series.grown[set];
    }

    public int hangs(int set) {
        if (!ground.hasSet(set)) {
            return NONE;
        }
        measureAll(ground, LAY_TWOS, left);
        series.slopesOfRoots();
        series.compose(left, ground.things, true);
        return (int) series.grown[set];
    }

    // ---- changes

    public int weigh(int set, int w) {
        if (!ground.hasSet(set) || w < 0 || w > MOST_WEIGHT || ground.lines[WEIGHTS][set] == w) {
            return NONE;
        }
        int had = ground.lines[WEIGHTS][set];
        acts.keepLine(ground, WEIGHTS);
        ground.lines[WEIGHTS][set] = w;
        return had;
    }

    public int join(int a, int b, boolean is) {
        if (!ground.hasThing(a) || !ground.hasThing(b) || a == b || ground.areMates(a, b) == is) {
            return NONE;
        }
        acts.keepLine(ground, WEIGHTS);
        ground.turnPair(a, b);
        return ground.countPairs();
    }

    public int name(int a, int b) {
        if (!ground.hasThing(a) || !ground.hasThing(b) || a == b) {
            return NONE;
        }
        acts.keepNames(a, b);
        ground.swapNames(a, b);
        return ground.countParted(a, b);
    }

    public int drawn(int n, int seed) {
        if (n < 1 || n > MOST_DEEDS) {
            return NONE;
        }
        if (ground.things == 0) {
            return 0;
        }
        acts.keepLine(ground, WEIGHTS);
        int s = seed;
        for (int i = 0; i < n; i++) {
            s = doDeed(s);
        }
        return ground.countTold();
    }

    public int undo() {
        if (acts.kept == 0) {
            return NONE;
        }
        acts.takeBack(ground);
        return acts.kept;
    }

    public boolean image(int k) {
        if (k < 0 || k > 1) {
            return false;
        }
        Ground place = k == 0 ? firstImage : secondImage;
        place.copyFrom(ground);
        place.filled = true;
        return true;
    }

    public boolean restore(int k) {
        if (k < 0 || k > 1) {
            return false;
        }
        Ground place = k == 0 ? firstImage : secondImage;
        if (!place.filled) {
            return false;
        }
        ground.copyFrom(place);
        acts.forget();
        return true;
    }

    // ---- helpers of rows

    /** The new numbers come into a row as an act; what stands in the source may be reckoned from that same row. */
    private int settle(int[] source, int to) {
        acts.keepLine(ground, to);
        System.arraycopy(source, 0, ground.lines[to], 0, ground.countSets());
        return ground.lines[to][ground.allThings()];
    }

    private int composeRow(int f, int to) {
        series.compose(ground.lines[f], ground.things, false);
        for (int set = 0; set < ground.countSets(); set++) {
            left[set] = (int) series.grown[set];
        }
        return settle(left, to);
    }

    private int transformRow(int row, boolean over, boolean backward) {
        if (!ground.hasRow(row)) {
            return NONE;
        }
        acts.keepLine(ground, row);
        transform(ground.lines[row], ground.things, over ? COMMON : TOGETHER, backward);
        return ground.lines[row][over ? 0 : ground.allThings()];
    }

    private void multiplyApart(int[] f, int[] g) {
        for (int set = 0; set < ground.countSets(); set++) {
            long total = (long) f[0] * g[set];
            for (int a = set; a > 0; a = (a - 1) & set) {
                total += (long) f[a] * g[set ^ a];
            }
            left[set] = reduce(total);
        }
    }

    /** What is a product over pairs of sets is one set by set between a transform and its undoing. */
    private void multiplyTransformed(int[] f, int[] g, int how) {
        System.arraycopy(f, 0, left, 0, MOST_SETS);
        System.arraycopy(g, 0, right, 0, MOST_SETS);
        transform(left, ground.things, how, false);
        transform(right, ground.things, how, false);
        for (int set = 0; set < ground.countSets(); set++) {
            left[set] = combine(left[set], right[set], how);
        }
        transform(left, ground.things, how, true);
    }

    private static int combine(int x, int y, int how) {
        if (how == ADDED) {
            return reduce((long) x + y);
        }
        if (how == LESS) {
            return reduce((long) x - y);
        }
        return reduce((long) x * y);
    }

    /** The transform that belongs to a product: TOGETHER sums over parts, COMMON over holders; none for 4 and on. */
    private static void transform(int[] row, int things, int how, boolean backward) {
        if (how < TOGETHER || how > UNLIKE) {
            return;
        }
        int sets = 1 << things;
        for (int thing = 0; thing < things; thing++) {
            int bit = 1 << thing;
            for (int set = 0; set < sets; set++) {
                if ((set & bit) == 0) {
                    turnTwo(row, set, set | bit, how, backward);
                }
            }
        }
    }

    private static void turnTwo(int[] row, int without, int with, int how, boolean backward) {
        long x = row[without];
        long y = row[with];
        if (how == TOGETHER) {
            row[with] = reduce(backward ? y - x : y + x);
        } else if (how == COMMON) {
            row[without] = reduce(backward ? x - y : x + y);
        } else {
            long scale = backward ? HALF : 1;
            row[without] = reduce((x + y) * scale);
            row[with] = reduce((x - y) * scale);
        }
    }

    private static int reduce(long v) {
        long rest = v % PRIME;
        return (int) (rest < 0 ? rest + PRIME : rest);
    }

    private static int raise(int base, int exponent) {
        long result = 1;
        long square = base;
        for (int e = exponent; e > 0; e >>= 1) {
            if ((e & 1) == 1) {
                result = result * square % PRIME;
            }
            square = square * square % PRIME;
        }
        return (int) result;
    }

    // ---- helpers of sets

    private static int leastThing(int set) {
        for (int thing = 0; thing < MOST_THINGS; thing++) {
            if ((set >> thing & 1) == 1) {
                return thing;
            }
        }
        return 0;
    }

    /** One number for each set, not reduced: hangs() needs the powers of two whole. */
    private static void measureAll(Ground ground, int what, int[] row) {
        for (int set = 0; set < ground.countSets(); set++) {
            row[set] = measureSet(ground, what, set, row);
        }
    }

    private static int measureSet(Ground ground, int what, int set, int[] row) {
        switch (what) {
            case 0:
                return ground.lines[WEIGHTS][set];
            case LAY_TOLD:
                return ground.lines[WEIGHTS][set] > 0 ? 1 : 0;
            case LAY_FREE:
            case LAY_FULL:
            case LAY_TWOS:
                return set == 0 ? 1 : measurePairs(ground, what, set, row);
            case LAY_HANGING:
                return hangsWhole(ground, set, row) ? 1 : 0;
            case LAY_THINGS:
                return Integer.bitCount(set);
            default:
                return set == 0 ? 1 : 0;
        }
    }

    /** From the number of the set without its least thing, which stands in the row already. */
    private static int measurePairs(Ground ground, int what, int set, int[] row) {
        int thing = leastThing(set);
        int rest = set & (set - 1);
        int mates = ground.mates(thing) & rest;
        if (what == LAY_FREE) {
            return mates == 0 ? row[rest] : 0;
        }
        if (what == LAY_FULL) {
            return mates == rest ? row[rest] : 0;
        }
        return row[rest] << Integer.bitCount(mates);
    }

    /**
     * What hangs together does so still without some one of its things, which is joined with another of it: the
     * numbers of the sets with one thing less stand in the row already.
     */
    private static boolean hangsWhole(Ground ground, int set, int[] row) {
        for (int thing = 0; thing < ground.things; thing++) {
            int rest = set ^ 1 << thing;
            if (rest == 0) {
                return true;
            }
            if (rest < set && row[rest] == 1 && (ground.mates(thing) & rest) != 0) {
                return true;
            }
        }
        return false;
    }

    /** Leaves in the left row the least price of each part of a set. */
    private void priceParts(int set) {
        left[0] = 0;
        for (int s = 1; s <= set; s++) {
            if ((s & ~set) == 0) {
                left[s] = leastPrice(s);
            }
        }
    }

    private int leastPrice(int set) {
        int rest = set & (set - 1);
        int least = priceWith(set, set ^ rest);
        for (int more = rest; more > 0; more = (more - 1) & rest) {
            least = Math.min(least, priceWith(set, set ^ rest | more));
        }
        return least;
    }

    private int priceWith(int set, int first) {
        int own = ground.lines[WEIGHTS][first];
        int others = left[set ^ first];
        return own == 0 || others >= NO_PRICE ? NO_PRICE : own + others;
    }

    private int partOrNone(int set, int i) {
        if (!ground.hasSet(set) || i < 0 || i >= MOST_THINGS) {
            return NONE;
        }
        priceParts(set);
        if (left[set] >= NO_PRICE) {
            return NONE;
        }
        int rest = set;
        for (int skipped = 0; skipped < i; skipped++) {
            rest ^= firstPart(rest);
        }
        return rest == 0 ? NONE : firstPart(rest);
    }

    /** The least set with the least thing that begins a cheapest parting; of the empty set: the empty one. */
    private int firstPart(int set) {
        int least = set & -set;
        for (int first = 1; first <= set; first++) {
            boolean fits = (first & ~set) == 0 && (first & least) != 0;
            if (fits && priceWith(set, first) == left[set]) {
                return first;
            }
        }
        return 0;
    }

    /** The fewest colours; leaves in classes, colour by colour, the things of the first colouring. */
    private int paintFewest(int set) {
        for (int k = 0; k <= MOST_THINGS; k++) {
            for (int c = 0; c < MOST_THINGS; c++) {
                classes[c] = 0;
            }
            if (paintFrom(ground, classes, set, k, 0)) {
                return k;
            }
        }
        return NONE;
    }

    /** Whether the things from one on can be coloured, too; goes a level deeper for each thing, eight at most. */
    private static boolean paintFrom(Ground ground, int[] classes, int set, int k, int thing) {
        if (thing >= ground.things) {
            return true;
        }
        int bit = 1 << thing;
        if ((set & bit) == 0) {
            return paintFrom(ground, classes, set, k, thing + 1);
        }
        for (int c = 0; c < k; c++) {
            boolean fresh = classes[c] == 0;
            if ((classes[c] & ground.mates(thing)) == 0) {
                classes[c] |= bit;
                if (paintFrom(ground, classes, set, k, thing + 1)) {
                    return true;
                }
                classes[c] ^= bit;
            }
            // Colours that nothing has are alike: where one fails, the next fails too.
            if (fresh) {
                return false;
            }
        }
        return false;
    }

    // ---- helpers of draws

    private static int nextSeed(int s) {
        return s * 1103515245 + 12345;
    }

    private static int draw(int s, int n) {
        return n > 0 ? (s >>> 8) % n : 0;
    }

    private int doDeed(int seed) {
        int s = nextSeed(seed);
        int kind = draw(s, 3);
        s = nextSeed(s);
        if (kind == 0) {
            int a = draw(s, ground.things);
            s = nextSeed(s);
            int b = draw(s, ground.things);
            if (a != b) {
                ground.turnPair(a, b);
            }
            return s;
        }
        int set = draw(s, ground.countSets());
        if (kind == 2) {
            ground.lines[WEIGHTS][set] = 0;
            return s;
        }
        s = nextSeed(s);
        ground.lines[WEIGHTS][set] = draw(s, 100) + 1;
        return s;
    }

    /** Things, sets, pairs and rows. */
    private static final class Ground {
        int things;
        /** Eight bits for each thing, from the lowest on: those that it is joined with. */
        long pairs;
        boolean filled;
        final int[][] lines = new int[LINES][MOST_SETS];

        void begin(int newThings, long newPairs, int[] weights) {
            things = newThings;
            pairs = newPairs;
            for (int line = 0; line < ROWS; line++) {
                for (int set = 0; set < MOST_SETS; set++) {
                    lines[line][set] = 0;
                }
            }
            System.arraycopy(weights, 0, lines[WEIGHTS], 0, MOST_SETS);
        }

        void copyFrom(Ground other) {
            things = other.things;
            pairs = other.pairs;
            for (int line = 0; line < LINES; line++) {
                System.arraycopy(other.lines[line], 0, lines[line], 0, MOST_SETS);
            }
        }

        /** Without things there are no sets, not even the empty one. */
        int countSets() {
            return things == 0 ? 0 : 1 << things;
        }

        int allThings() {
            return (1 << things) - 1;
        }

        boolean hasThing(int thing) {
            return thing >= 0 && thing < things;
        }

        boolean hasSet(int set) {
            return set >= 0 && set < countSets();
        }

        boolean hasRow(int row) {
            return row >= 0 && row < ROWS && things > 0;
        }

        int mates(int thing) {
            return (int) (pairs >>> (thing * MOST_THINGS)) & (MOST_SETS - 1);
        }

        boolean areMates(int a, int b) {
            return (mates(a) >> b & 1) == 1;
        }

        void turnPair(int a, int b) {
            pairs ^= 1L << (a * MOST_THINGS + b) | 1L << (b * MOST_THINGS + a);
        }

        int countPairs() {
            return Long.bitCount(pairs) >> 1;
        }

        int countTold() {
            int told = 0;
            for (int set = 0; set < MOST_SETS; set++) {
                told += lines[WEIGHTS][set] > 0 ? 1 : 0;
            }
            return told;
        }

        int countParted(int a, int b) {
            int parted = 0;
            for (int set = 0; set < MOST_SETS; set++) {
                boolean one = (set >> a & 1) != (set >> b & 1);
                parted += one && lines[WEIGHTS][set] > 0 ? 1 : 0;
            }
            return parted;
        }

        void swapNames(int a, int b) {
            int both = 1 << a | 1 << b;
            for (int line = 0; line < LINES; line++) {
                for (int set = 0; set < MOST_SETS; set++) {
                    if ((set & both) == 1 << a) {
                        int kept = lines[line][set];
                        lines[line][set] = lines[line][set ^ both];
                        lines[line][set ^ both] = kept;
                    }
                }
            }
            for (int thing = 0; thing < things; thing++) {
                if (thing != a && thing != b && areMates(a, thing) != areMates(b, thing)) {
                    turnPair(a, thing);
                    turnPair(b, thing);
                }
            }
        }
    }

    /** The latest acts, in a ring: of each what it changes, as it was ahead of it. */
    private static final class Acts {
        private static final int MOST = 8;
        /** In place of a line: names that changed, which change back by themselves. */
        private static final int NAMES = LINES;

        int kept;
        private int next;
        private final int[] lineOf = new int[MOST];
        private final int[][] was = new int[MOST][MOST_SETS];
        private final long[] pairsWere = new long[MOST];
        private final int[] firstName = new int[MOST];
        private final int[] secondName = new int[MOST];

        void forget() {
            kept = 0;
        }

        void keepLine(Ground ground, int line) {
            System.arraycopy(ground.lines[line], 0, was[next], 0, MOST_SETS);
            pairsWere[next] = ground.pairs;
            goOn(line);
        }

        void keepNames(int a, int b) {
            firstName[next] = a;
            secondName[next] = b;
            goOn(NAMES);
        }

        private void goOn(int line) {
            lineOf[next] = line;
            next = (next + 1) % MOST;
            kept = Math.min(kept + 1, MOST);
        }

        void takeBack(Ground ground) {
            kept--;
            next = (next + MOST - 1) % MOST;
            if (lineOf[next] == NAMES) {
                ground.swapNames(firstName[next], secondName[next]);
                return;
            }
            System.arraycopy(was[next], 0, ground.lines[lineOf[next]], 0, MOST_SETS);
            ground.pairs = pairsWere[next];
        }
    }

    /**
     * A function of a row under the product APART. By its slopes (the function and its derivatives at the number of
     * the empty set) it is, for each set, the sum over all partings of the set of the numbers of their sets,
     * multiplied, and of the slope that has as many sets.
     */
    private static final class Series {
        final long[] grown = new long[MOST_SETS];
        private final long[] slopes = new long[MOST_THINGS + 1];

        void slopesOfPower(int empty, int k) {
            slopesOfChoices(k);
            for (int d = 0; d <= MOST_THINGS; d++) {
                slopes[d] = d <= k ? slopes[d] % PRIME * raise(empty, k - d) % PRIME : 0;
            }
        }

        void slopesOfInverse(int empty) {
            long inverted = raise(empty, PRIME - 2);
            slopes[0] = inverted;
            for (int d = 1; d <= MOST_THINGS; d++) {
                slopes[d] = reduce(-slopes[d - 1] * d % PRIME * inverted);
            }
        }

        void slopesOfAllWays() {
            for (int d = 0; d <= MOST_THINGS; d++) {
                slopes[d] = 1;
            }
        }

        void slopesOfRoots() {
            slopes[0] = 0;
            slopes[1] = 1;
            for (int d = 2; d <= MOST_THINGS; d++) {
                slopes[d] = -slopes[d - 1] * (d - 1);
            }
        }

        void slopesOfCount(int k) {
            for (int d = 0; d <= MOST_THINGS; d++) {
                slopes[d] = d == k ? 1 : 0;
            }
        }

        /** In how many ways d sets get colours of k, each another one; at most 99 to the eighth, which a long holds. */
        void slopesOfChoices(int k) {
            slopes[0] = 1;
            for (int d = 1; d <= MOST_THINGS; d++) {
                slopes[d] = slopes[d - 1] * (k - d + 1);
            }
        }

        /**
         * Each round takes one set more out, the one with the least thing: what is left then has only things above
         * it, so round d needs the sets of things from d on alone. Sets go falling, as a set needs its parts as the
         * round ahead left them.
         */
        void compose(int[] f, int things, boolean exact) {
            int sets = 1 << things;
            grown[0] = slopes[things];
            for (int d = things - 1; d >= 0; d--) {
                int step = 1 << d;
                for (int set = sets - step; set > 0; set -= step) {
                    long total = takeOut(f, set);
                    grown[set] = exact ? total : reduce(total);
                }
                grown[0] = slopes[d];
            }
        }

        private long takeOut(int[] f, int set) {
            int rest = set & (set - 1);
            int least = set ^ rest;
            long total = f[least] * grown[rest];
            for (int more = rest; more > 0; more = (more - 1) & rest) {
                total += f[least | more] * grown[rest ^ more];
            }
            return total;
        }
    }

    /** The tape, and what a text on it tells. */
    private static final class Reader {
        private static final int MOST_TAPE = 540;
        private static final int MOST_TEXT = 500;
        private static final int END = 0;
        private static final int WORD = 1;
        private static final int NUMBER = 2;
        private static final int SIGN = 3;
        private static final int NO_TOKEN = 4;

        private final byte[] tape = new byte[MOST_TAPE];
        int length;
        int kindOfFault;
        int place;
        int things;
        long pairs;
        final int[] weights = new int[MOST_SETS];
        private int kind;
        private int start;
        private int stop;

        boolean hasRoom() {
            return length + 20 <= MOST_TAPE;
        }

        void take(int number) {
            for (int shift = 24; shift >= 0 && length < MOST_TAPE; shift -= 8) {
                tape[length] = (byte) (number >>> shift);
                length++;
            }
        }

        /** How many lines there are, or are ahead of the fault. */
        int readAll() {
            kindOfFault = 0;
            things = 0;
            pairs = 0;
            for (int set = 0; set < MOST_SETS; set++) {
                weights[set] = 0;
            }
            stop = 0;
            int lines = 0;
            while (lines < MOST_TAPE && readLine(lines == 0)) {
                lines++;
            }
            return lines;
        }

        private boolean readLine(boolean first) {
            nextToken();
            if (kind == END && length <= MOST_TEXT) {
                return false;
            }
            if (first) {
                return isWord("things") ? readThings() : blame(1);
            }
            if (isWord("set")) {
                return readSet();
            }
            return isWord("pair") ? readPair() : blame(1);
        }

        private boolean readThings() {
            nextToken();
            if (kind != NUMBER) {
                return blame(1);
            }
            int number = numberRead();
            if (number < 1 || number > MOST_THINGS) {
                return blame(2);
            }
            things = number;
            nextToken();
            return kind == SIGN || blame(1);
        }

        private boolean readSet() {
            nextToken();
            if (kind != WORD) {
                return blame(1);
            }
            int set = lettersRead();
            if (set == NONE) {
                return blame(3);
            }
            if (weights[set] != 0) {
                return blame(4);
            }
            weights[set] = 1;
            nextToken();
            if (kind == NUMBER) {
                weights[set] = numberRead();
                if (weights[set] < 1) {
                    return blame(2);
                }
                nextToken();
            }
            return kind == SIGN || blame(1);
        }

        private boolean readPair() {
            nextToken();
            if (kind != WORD) {
                return blame(1);
            }
            int set = lettersRead();
            if (set == NONE || Integer.bitCount(set) != 2) {
                return blame(3);
            }
            int low = leastThing(set);
            int high = leastThing(set & (set - 1));
            long pair = 1L << (low * MOST_THINGS + high) | 1L << (high * MOST_THINGS + low);
            if ((pairs & pair) != 0) {
                return blame(4);
            }
            pairs |= pair;
            nextToken();
            return kind == SIGN || blame(1);
        }

        /** Never true, so that a line that is at fault ends the reading with it. */
        private boolean blame(int kindOfIt) {
            kindOfFault = kindOfIt;
            place = start;
            return false;
        }

        /** A token has to begin ahead of the text's limit, but may go on beyond it. */
        private void nextToken() {
            int limit = Math.min(length, MOST_TEXT);
            start = stop;
            while (start < limit && (tape[start] == ' ' || tape[start] == '\n')) {
                start++;
            }
            if (start >= limit) {
                start = limit;
                stop = limit;
                kind = END;
                return;
            }
            readRun();
            if (stop == start) {
                kind = tape[start] == ';' ? SIGN : NO_TOKEN;
                stop++;
            }
        }

        /** A run of letters and digits is a token only if it has letters alone, or up to three digits alone. */
        private void readRun() {
            int digits = 0;
            stop = start;
            while (stop < length && (isLetter(tape[stop]) || isDigit(tape[stop]))) {
                digits += isDigit(tape[stop]) ? 1 : 0;
                stop++;
            }
            if (digits == 0) {
                kind = WORD;
            } else {
                kind = digits == stop - start && digits <= 3 ? NUMBER : NO_TOKEN;
            }
        }

        private static boolean isLetter(byte b) {
            return b >= 'a' && b <= 'z';
        }

        private static boolean isDigit(byte b) {
            return b >= '0' && b <= '9';
        }

        private boolean isWord(String word) {
            if (kind != WORD || stop - start != word.length()) {
                return false;
            }
            for (int i = 0; i < word.length(); i++) {
                if (tape[start + i] != word.charAt(i)) {
                    return false;
                }
            }
            return true;
        }

        private int numberRead() {
            int number = 0;
            for (int i = start; i < stop; i++) {
                number = number * 10 + (tape[i] - '0');
            }
            return number;
        }

        /** The set of a word's letters; NONE, if one is not of the things, or comes twice. */
        private int lettersRead() {
            int set = 0;
            for (int i = start; i < stop; i++) {
                int thing = tape[i] - 'a';
                if (thing < 0 || thing >= things || (set >> thing & 1) == 1) {
                    return NONE;
                }
                set |= 1 << thing;
            }
            return set;
        }
    }
}
