/** Each sentence on rows (promises 9 to 18 and their terms) that names a boundary, by itself. */
public final class RowEdgesTest {
    private static final int BIG = Integer.MAX_VALUE;
    private static final int SMALL = Integer.MIN_VALUE;
    private static final int PRIME = 1_000_003;
    /** The largest number of a row: one less than 0. */
    private static final int TOP = PRIME - 1;
    private static final int[] NO_ROWS = {-1, 4, 5, BIG, SMALL};
    private static final int[] NO_SETS = {-1, 8, 9, 256, BIG, SMALL};

    private RowEdgesTest() {
    }

    public static void main(String[] args) {
        at();
        put();
        lay();
        layPairs();
        layRefused();
        sum();
        back();
        timesSets();
        timesNumbers();
        timesRows();
        power();
        powerRows();
        inverse();
        allWays();
        roots();
        Check.finish();
    }

    private static PartSums things(int n) {
        return Check.with("things " + n + ";");
    }

    private static void row(String what, PartSums x, int row, long... want) {
        Check.row(what, x, row, want);
    }

    /** One thing, and a row 0 with these two numbers. */
    private static PartSums two(int empty, int whole) {
        PartSums x = things(1);
        Check.fill(x, 0, empty, whole);
        return x;
    }

    private static void at() {
        Check.sentence("9", "ROWS 0 to 3 (at first all 0) .. for each SET");
        for (int n = 1; n <= 8; n++) {
            PartSums x = things(n);
            for (int row = 0; row < 4; row++) {
                Check.due("the empty set", x.at(row, 0), 0);
                Check.due("all", x.at(row, (1 << n) - 1), 0);
            }
        }
        Check.sentence("9", "NONE: no such ones");
        for (int n = 1; n <= 8; n++) {
            PartSums x = things(n);
            Check.due("one set more", x.at(0, 1 << n), -1);
            Check.due("below", x.at(3, -1), -1);
            Check.due("row 4", x.at(4, 0), -1);
            Check.due("row -1", x.at(-1, 0), -1);
        }
        for (int row : NO_ROWS) {
            Check.refused("at(" + row + ", 0)", x -> x.at(row, 0));
        }
        for (int set : NO_SETS) {
            Check.refused("at(0, " + set + ")", x -> x.at(0, set));
        }
        Check.refusedWithoutThings("at(0, 0)", x -> x.at(0, 0));
    }

    private static void put() {
        Check.sentence("10", "It becomes v modulo 1,000,003 (0 at least): that");
        int[] v = {0, 1, TOP, PRIME, PRIME + 1, 2 * PRIME, -1, -TOP, -PRIME, -PRIME - 1, BIG, SMALL};
        int[] due = {0, 1, TOP, 0, 1, 0, TOP, 1, 0, TOP, 477_206, 522_796};
        PartSums x = things(8);
        for (int i = 0; i < v.length; i++) {
            Check.due("put " + v[i], x.put(3, 255, v[i]), due[i]);
            Check.due("at behind " + v[i], x.at(3, 255), due[i]);
        }
        Check.due("another set", x.at(3, 254), 0);
        Check.due("another row", x.at(2, 255), 0);
        Check.due("the first one", x.put(0, 0, 9), 9);
        Check.due("the first one", x.at(0, 0), 9);
        Check.sentence("10", "NONE: no such ones");
        for (int row : NO_ROWS) {
            Check.refused("put(" + row + ", 0, 1)", y -> y.put(row, 0, 1));
        }
        for (int set : NO_SETS) {
            Check.refused("put(0, " + set + ", 1)", y -> y.put(0, set, 1));
        }
        Check.refusedWithoutThings("put(0, 0, 1)", y -> y.put(0, 0, 1));
    }

    private static void lay() {
        Check.sentence("11", "what 0 WEIGHTS (0 for what is not TOLD)");
        PartSums x = Check.with("things 2;set a 999;set ab;");
        Check.fill(x, 0, 4, 4, 4, 4);
        Check.due("all", x.lay(0, 0), 1);
        row("weights", x, 0, 0, 999, 0, 1);
        x.weigh(0, 7);
        x.weigh(3, 0);
        Check.due("not told", x.lay(0, 0), 0);
        row("the empty one told", x, 0, 7, 999, 0, 0);
        Check.sentence("11", "1: 1 for SETS that are TOLD");
        Check.due("not told", x.lay(1, 1), 0);
        row("told", x, 1, 1, 1, 0, 0);
        Check.sentence("11", "6: how many THINGS");
        Check.due("all", x.lay(0, 6), 2);
        row("things", x, 0, 0, 1, 1, 2);
        Check.due("one", things(1).lay(0, 6), 1);
        Check.due("eight", things(8).lay(3, 6), 8);
        Check.sentence("11", "7: POWER 0; 0 else");
        Check.due("all", x.lay(0, 7), 0);
        row("power 0", x, 0, 1, 0, 0, 0);
        Check.sentence("11", "A ROW becomes");
        row("another row stays", x, 1, 1, 1, 0, 0);
        Check.sentence("11", "The number for ALL THINGS");
        for (int n = 1; n <= 8; n++) {
            Check.due("of " + n, things(n).lay(0, 6), n);
        }
    }

    private static void layPairs() {
        PartSums line = Check.with("things 3;pair ab;pair bc;");
        Check.sentence("11", "2: 1 for SETS without a PAIR in them");
        Check.due("all", line.lay(0, 2), 0);
        row("a line", line, 0, 1, 1, 1, 0, 1, 1, 0, 0);
        Check.due("no pairs", things(8).lay(0, 2), 1);
        Check.sentence("11", "3: 1 for those of which each two are JOINED");
        Check.due("all", line.lay(0, 3), 0);
        row("a line", line, 0, 1, 1, 1, 1, 1, 0, 1, 0);
        Check.due("one", things(1).lay(0, 3), 1);
        Check.due("two, not joined", things(2).lay(0, 3), 0);
        Check.due("eight", Check.with(Check.complete(8)).lay(0, 3), 1);
        Check.sentence("11", "4: 2 to the PAIRS in it");
        Check.due("all", line.lay(0, 4), 4);
        row("a line", line, 0, 1, 1, 1, 2, 1, 1, 2, 4);
        int[] twos = {1, 2, 8, 64, 1024, 32_768, 2_097_152 % PRIME, 268_435_456 % PRIME};
        for (int n = 1; n <= 8; n++) {
            Check.due("each two of " + n, Check.with(Check.complete(n)).lay(0, 4), twos[n - 1]);
        }
        Check.sentence("11", "5: 1 for SETS (not empty) that HANG TOGETHER with all their PAIRS");
        Check.due("all", line.lay(0, 5), 1);
        row("a line", line, 0, 0, 1, 1, 1, 1, 0, 1, 1);
        PartSums halves = Check.with("things 4;pair ab;pair cd;");
        Check.due("two halves", halves.lay(0, 5), 0);
        row("two halves", halves, 0, 0, 1, 1, 1, 1, 0, 0, 0, 1, 0, 0, 0, 1, 0, 0, 0);
        PartSums far = Check.with("things 8;pair ah;pair hb;pair bg;pair gc;pair cf;pair fd;pair de;");
        Check.due("a long line", far.lay(0, 5), 1);
        Check.due("without an end", far.at(0, 254), 1);
        Check.due("without its middle", far.at(0, 255 - 64), 0);
    }

    private static void layRefused() {
        Check.sentence("11", "NONE: no such ROW, what");
        for (int row : NO_ROWS) {
            Check.refused("lay(" + row + ", 0)", x -> x.lay(row, 0));
        }
        for (int what : new int[] {-1, 8, 9, BIG, SMALL}) {
            Check.refused("lay(0, " + what + ")", x -> x.lay(0, what));
        }
        Check.sentence("11", "NONE: .. no THINGS");
        for (int what = 0; what <= 7; what++) {
            int k = what;
            Check.refusedWithoutThings("lay(0, " + k + ")", x -> x.lay(0, k));
        }
    }

    private static void sum() {
        Check.sentence("12", "over PARTS: for each SET the numbers of all its PARTS (none, itself, too) together");
        PartSums x = things(2);
        Check.fill(x, 0, 1, 0, 0, 0);
        Check.fill(x, 1, 0, 0, 0, 1);
        Check.fill(x, 2, 0, 1, 0, 0);
        Check.due("of the empty one", x.sum(0, false), 1);
        row("none counts", x, 0, 1, 1, 1, 1);
        Check.due("of all", x.sum(1, false), 1);
        row("itself counts", x, 1, 0, 0, 0, 1);
        Check.due("of a", x.sum(2, false), 1);
        row("a", x, 2, 0, 1, 0, 1);
        Check.sentence("12", "over HOLDERS: of all SETS that have it as a PART");
        Check.fill(x, 0, 1, 0, 0, 0);
        Check.fill(x, 1, 0, 0, 0, 1);
        Check.fill(x, 2, 0, 1, 0, 0);
        Check.due("of the empty one", x.sum(0, true), 1);
        row("itself counts", x, 0, 1, 0, 0, 0);
        Check.due("of all", x.sum(1, true), 1);
        row("all counts", x, 1, 1, 1, 1, 1);
        Check.due("of a", x.sum(2, true), 1);
        row("a", x, 2, 1, 1, 0, 0);
        Check.sentence("12", "the number for ALL THINGS (over false)");
        Check.fill(x, 3, 10, 20, 30, 40);
        Check.due("all", x.sum(3, false), 100);
        Check.sentence("12", "for the empty SET (over true)");
        Check.fill(x, 3, 10, 20, 30, 41);
        Check.due("empty", x.sum(3, true), 101);
        Check.due("all", x.at(3, 3), 41);
        Check.sentence("12", "modulo 1,000,003");
        PartSums y = things(8);
        Check.fillAll(y, 0, TOP);
        Check.fillAll(y, 1, TOP);
        Check.due("256 times one less than 0", y.sum(0, false), PRIME - 256);
        Check.due("256 times one less than 0", y.sum(1, true), PRIME - 256);
        Check.due("two of them are 0", two(1, TOP).sum(0, false), 0);
        Check.sentence("12", "NONE: no such ROW, no THINGS");
        sumRefused(true);
        sumRefused(false);
    }

    private static void sumRefused(boolean over) {
        for (int row : NO_ROWS) {
            Check.refused("sum(" + row + ", " + over + ")", x -> x.sum(row, over));
        }
        Check.refusedWithoutThings("sum(0, " + over + ")", x -> x.sum(0, over));
    }

    private static void back() {
        Check.sentence("13", "BACK from either: the ROW that, SUMMED so, is what there was");
        PartSums x = things(2);
        Check.fill(x, 0, 1, 1, 1, 1);
        Check.due("parts", x.back(0, false), 0);
        row("parts", x, 0, 1, 0, 0, 0);
        Check.fill(x, 0, 1, 1, 1, 1);
        Check.due("holders", x.back(0, true), 0);
        row("holders", x, 0, 0, 0, 0, 1);
        for (boolean over : new boolean[] {false, true}) {
            Check.fill(x, 1, 5, TOP, 0, 7);
            x.back(1, over);
            x.sum(1, over);
            row("there again", x, 1, 5, TOP, 0, 7);
            x.sum(1, over);
            x.back(1, over);
            row("back again", x, 1, 5, TOP, 0, 7);
        }
        Check.sentence("13", "likewise: the number for ALL THINGS, for the empty SET");
        Check.fill(x, 0, 1, 3, 5, 17);
        Check.due("all", x.back(0, false), 10);
        Check.fill(x, 0, 17, 3, 5, 1);
        Check.due("empty", x.back(0, true), 10);
        Check.due("all stays", x.at(0, 3), 1);
        Check.reading("13", "from 0 on, modulo 1,000,003");
        Check.due("below 0", two(1, 0).back(0, false), TOP);
        Check.due("below 0", two(0, 1).back(0, true), TOP);
        Check.sentence("13", "likewise: NONE: no such ROW, no THINGS");
        backRefused(true);
        backRefused(false);
    }

    private static void backRefused(boolean over) {
        for (int row : NO_ROWS) {
            Check.refused("back(" + row + ", " + over + ")", x -> x.back(row, over));
        }
        Check.refusedWithoutThings("back(0, " + over + ")", x -> x.back(0, over));
    }

    /** A 1 for set a in row 0, for set b in row 1: where does their product come? */
    private static void meets(int a, int b, int how, int set) {
        PartSums x = things(2);
        x.put(0, a, 1);
        x.put(1, b, 1);
        x.times(0, 1, how, 2);
        for (int s = 0; s < 4; s++) {
            Check.due(a + " and " + b + " in " + s, x.at(2, s), s == set ? 1 : 0);
        }
    }

    private static void timesSets() {
        Check.sentence("14", "0 APART: that have nothing in common and are S together");
        for (int a = 0; a < 4; a++) {
            for (int b = 0; b < 4; b++) {
                meets(a, b, 0, (a & b) == 0 ? a | b : -1);
            }
        }
        Check.sentence("14", "1 TOGETHER: that are S together");
        meetAll(1, new int[] {0, 1, 2, 3, 1, 1, 3, 3, 2, 3, 2, 3, 3, 3, 3, 3});
        Check.sentence("14", "2 COMMON: that have S in common");
        meetAll(2, new int[] {0, 0, 0, 0, 0, 1, 0, 1, 0, 0, 2, 2, 0, 1, 2, 3});
        Check.sentence("14", "3 UNLIKE: S is what is in just one of both");
        meetAll(3, new int[] {0, 1, 2, 3, 1, 0, 3, 2, 2, 3, 0, 1, 3, 2, 1, 0});
        for (int n = 1; n <= 8; n++) {
            PartSums x = things(n);
            x.put(0, 0, 3);
            x.put(0, 1, 5);
            x.put(1, (1 << n) - 1, 7);
            Check.due("all of " + n, x.times(0, 1, 3, 2), 21);
            Check.due("all but a of " + n, x.at(2, (1 << n) - 2), 35);
        }
        Check.sentence("14", "4: f(S) g(S)");
        meetAll(4, new int[] {0, -1, -1, -1, -1, 1, -1, -1, -1, -1, 2, -1, -1, -1, -1, 3});
    }

    private static void meetAll(int how, int[] sets) {
        for (int i = 0; i < 16; i++) {
            meets(i / 4, i % 4, how, sets[i]);
        }
    }

    private static void timesNumbers() {
        Check.sentence("14", "5: f(S) and g(S)");
        PartSums x = things(1);
        Check.fill(x, 0, TOP, 5);
        Check.fill(x, 1, 1, 6);
        Check.due("all", x.times(0, 1, 5, 2), 11);
        row("two make 0", x, 2, 0, 11);
        Check.sentence("14", "6: f(S) less g(S)");
        Check.due("all", x.times(0, 1, 6, 2), TOP);
        row("below 0", x, 2, TOP - 1, TOP);
        Check.due("all", x.times(1, 0, 6, 2), 1);
        row("the other way", x, 2, 2, 1);
        Check.due("itself", x.times(0, 0, 6, 2), 0);
        Check.sentence("14", "reckoned modulo 1,000,003");
        PartSums y = things(8);
        Check.fillAll(y, 0, TOP);
        Check.fillAll(y, 1, 1);
        int[] whole = {PRIME - 256, PRIME - 6561, TOP, PRIME - 256, TOP, 0, TOP - 1};
        int[] empty = {TOP, TOP, PRIME - 6561, PRIME - 256, TOP, 0, TOP - 1};
        int[] squares = {256, 6561, 1, 256, 1, TOP - 1, 0};
        for (int how = 0; how <= 6; how++) {
            Check.due("all, " + how, y.times(0, 1, how, 2), whole[how]);
            Check.due("empty, " + how, y.at(2, 0), empty[how]);
            Check.due("itself, " + how, y.times(0, 0, how, 2), squares[how]);
        }
    }

    private static void timesRows() {
        Check.sentence("14", "of two ROWS (the same one, too) comes into a third one");
        PartSums x = things(1);
        Check.fill(x, 0, 2, 3);
        Check.fill(x, 1, 5, 7);
        Check.due("into 3", x.times(0, 1, 0, 3), 29);
        row("the product", x, 3, 10, 29);
        row("the first stays", x, 0, 2, 3);
        row("the second stays", x, 1, 5, 7);
        row("another stays", x, 2, 0, 0);
        Check.due("the same one", x.times(0, 0, 0, 3), 12);
        row("the same one", x, 3, 4, 12);
        Check.due("into the first", x.times(0, 1, 1, 0), 50);
        row("into the first", x, 0, 10, 50);
        Check.due("into the second", x.times(3, 1, 0, 1), 88);
        row("into the second", x, 1, 20, 88);
        Check.sentence("14", "NONE: no such ones");
        for (int row : NO_ROWS) {
            Check.refused("times(" + row + ", 0, 0, 0)", y -> y.times(row, 0, 0, 0));
            Check.refused("times(0, " + row + ", 0, 0)", y -> y.times(0, row, 0, 0));
            Check.refused("times(0, 0, 0, " + row + ")", y -> y.times(0, 0, 0, row));
        }
        Check.sentence("14", "PRODUCT (how 0 to 6)");
        for (int how : new int[] {-1, 7, 8, BIG, SMALL}) {
            Check.refused("times(0, 0, " + how + ", 0)", y -> y.times(0, 0, how, 0));
        }
        Check.sentence("14", "NONE: .. no THINGS");
        for (int how = 0; how <= 6; how++) {
            int k = how;
            Check.refusedWithoutThings("times(0, 0, " + k + ", 0)", y -> y.times(0, 0, k, 0));
        }
    }

    private static void power() {
        Check.sentence("15", "0: 1 for the empty SET, else 0");
        PartSums x = things(2);
        Check.fill(x, 1, 9, 9, 9, 9);
        Check.due("of zeros", x.power(0, 0, 1), 0);
        row("of zeros", x, 1, 1, 0, 0, 0);
        Check.fill(x, 0, 7, 7, 7, 7);
        Check.due("of sevens", x.power(0, 0, 2), 0);
        row("of sevens", x, 2, 1, 0, 0, 0);
        Check.sentence("15", "f by itself APART, k times");
        Check.due("once", x.power(0, 1, 2), 7);
        row("once", x, 2, 7, 7, 7, 7);
        Check.due("twice", x.power(0, 2, 2), 196);
        row("twice", x, 2, 49, 98, 98, 196);
        PartSums y = things(8);
        for (int thing = 0; thing < 8; thing++) {
            y.put(0, 1 << thing, 10);
        }
        Check.due("seven of eight", y.power(0, 7, 1), 0);
        Check.due("eight of eight", y.power(0, 8, 1), 40_320L * 100_000_000 % PRIME);
        Check.due("nine of eight", y.power(0, 9, 1), 0);
        Check.sentence("15", "POWER k (0 to 99)");
        Check.due("99", two(1, 1).power(0, 99, 1), 99);
        long twos = 1;
        for (int i = 0; i < 98; i++) {
            twos = twos * 2 % PRIME;
        }
        PartSums z = two(2, 1);
        Check.due("99 of two", z.power(0, 99, 1), 99 * twos % PRIME);
        Check.due("99 of two", z.at(1, 0), 2 * twos % PRIME);
        Check.due("98 of one less than 0", two(TOP, 1).power(0, 98, 0), PRIME - 98);
        for (int k : new int[] {-1, 100, 101, BIG, SMALL}) {
            Check.refused("power(0, " + k + ", 1)", w -> w.power(0, k, 1));
        }
    }

    private static void powerRows() {
        Check.sentence("15", "comes into another one (or it)");
        PartSums x = two(2, 3);
        Check.due("another one", x.power(0, 2, 3), 12);
        row("another one", x, 3, 4, 12);
        row("it stays", x, 0, 2, 3);
        Check.due("it", x.power(0, 2, 0), 12);
        row("it", x, 0, 4, 12);
        Check.due("it, 0", x.power(0, 0, 0), 0);
        row("it, 0", x, 0, 1, 0);
        Check.sentence("15", "likewise: NONE: no such ones, no THINGS");
        for (int row : NO_ROWS) {
            Check.refused("power(" + row + ", 2, 0)", y -> y.power(row, 2, 0));
            Check.refused("power(0, 2, " + row + ")", y -> y.power(0, 2, row));
        }
        Check.refusedWithoutThings("power(0, 0, 0)", y -> y.power(0, 0, 0));
        Check.refusedWithoutThings("power(0, 99, 0)", y -> y.power(0, 99, 0));
    }

    private static void inverse() {
        Check.sentence("16", "INVERSE of f: the ROW that makes POWER 0 with it APART");
        for (int empty : new int[] {1, 2, 3, 500_001, TOP}) {
            PartSums x = things(3);
            Check.fill(x, 0, empty, 1, TOP, 3, 4, 5, 0, 7);
            Check.due("all", x.inverse(0, 1), x.at(1, 7));
            Check.due("together", x.times(0, 1, 0, 2), 0);
            row("power 0", x, 2, 1, 0, 0, 0, 0, 0, 0, 0);
        }
        PartSums x = two(TOP, 1);
        Check.due("of one less than 0", x.inverse(0, 1), TOP);
        row("of one less than 0", x, 1, TOP, TOP);
        for (int n = 1; n <= 8; n++) {
            PartSums many = things(n);
            many.put(0, 0, 1);
            long want = 1;
            for (int thing = 0; thing < n; thing++) {
                many.put(0, 1 << thing, 1);
                want = -want * (thing + 1);
            }
            Check.due("of " + n + " things", many.inverse(0, 1), Math.floorMod(want, PRIME));
        }
        Check.sentence("16", "likewise: into another one (or it)");
        PartSums y = two(1, 5);
        Check.due("another one", y.inverse(0, 3), PRIME - 5);
        row("it stays", y, 0, 1, 5);
        Check.due("it", y.inverse(0, 0), PRIME - 5);
        row("it", y, 0, 1, PRIME - 5);
        Check.sentence("16", "NONE also if the number of the empty SET is 0");
        Check.refused("inverse(1, 0)", z -> z.inverse(1, 0));
        Check.refused("inverse(3, 3)", z -> z.inverse(3, 3));
        PartSums w = two(PRIME, 1);
        Check.due("modulo", w.inverse(0, 1), -1);
        Check.sentence("16", "likewise: NONE: no such ones, no THINGS");
        for (int row : NO_ROWS) {
            Check.refused("inverse(" + row + ", 0)", z -> z.inverse(row, 0));
            Check.refused("inverse(0, " + row + ")", z -> z.inverse(0, row));
        }
        Check.refusedWithoutThings("inverse(0, 0)", z -> z.inverse(0, 0));
    }

    private static void allWays() {
        Check.sentence("17", "the sum, over all ways to part S into SETS (not empty, in no order)");
        PartSums x = things(8);
        Check.fillAll(x, 0, 1);
        x.put(0, 0, 0);
        int[] ways = {1, 1, 2, 5, 15, 52, 203, 877, 4140};
        Check.due("all", x.allWays(0, 1), 4140);
        for (int n = 0; n <= 8; n++) {
            Check.due("of " + n, x.at(1, (1 << n) - 1), ways[n]);
        }
        Check.sentence("17", "1 for the empty S");
        PartSums y = things(1);
        Check.due("of zeros", y.allWays(0, 1), 0);
        row("of zeros", y, 1, 1, 0);
        Check.reading("17", "of their numbers multiplied, modulo 1,000,003");
        PartSums z = things(8);
        long power = 1;
        for (int thing = 0; thing < 8; thing++) {
            z.put(0, 1 << thing, 1000);
            power = power * 1000 % PRIME;
        }
        Check.due("1000 by itself", z.allWays(0, 1), power);
        Check.sentence("17", "likewise: into another one (or it)");
        PartSums w = two(0, 5);
        Check.due("another one", w.allWays(0, 3), 5);
        row("it stays", w, 0, 0, 5);
        Check.due("it", w.allWays(0, 0), 5);
        row("it", w, 0, 1, 5);
        Check.sentence("17", "NONE also if the number of the empty SET is not 0");
        Check.refused("allWays(0, 1)", v -> v.allWays(0, 1));
        Check.refused("allWays(2, 2)", v -> v.allWays(2, 2));
        Check.due("one less than 0", two(TOP, 1).allWays(0, 1), -1);
        Check.sentence("17", "likewise: NONE: no such ones, no THINGS");
        for (int row : NO_ROWS) {
            Check.refused("allWays(" + row + ", 0)", v -> v.allWays(row, 0));
            Check.refused("allWays(1, " + row + ")", v -> v.allWays(1, row));
        }
        Check.refusedWithoutThings("allWays(0, 0)", v -> v.allWays(0, 0));
    }

    private static void roots() {
        Check.sentence("18", "ROOTS of g (1 for the empty SET): the f (0 for the empty SET) whose ALL WAYS is g");
        PartSums x = things(3);
        Check.fill(x, 0, 1, 1, 1, 1, 1, 1, 1, 1);
        Check.due("of ones", x.roots(0, 1), 0);
        row("of ones", x, 1, 0, 1, 1, 0, 1, 0, 0, 0);
        Check.fill(x, 0, 1, 2, 3, 0, TOP, 5, 6, 7);
        x.roots(0, 1);
        Check.due("the empty one", x.at(1, 0), 0);
        Check.due("below 0", x.at(1, 3), PRIME - 6);
        Check.due("and back", x.allWays(1, 2), 7);
        row("and back", x, 2, 1, 2, 3, 0, TOP, 5, 6, 7);
        PartSums y = things(1);
        y.put(0, 0, 1);
        Check.due("of power 0", y.roots(0, 0), 0);
        row("of power 0", y, 0, 0, 0);
        Check.sentence("18", "likewise: into another one (or it)");
        PartSums w = two(1, 5);
        Check.due("another one", w.roots(0, 3), 5);
        row("it stays", w, 0, 1, 5);
        Check.due("it", w.roots(0, 0), 5);
        row("it", w, 0, 0, 5);
        Check.sentence("18", "NONE also if the number of the empty SET is not 1");
        Check.refused("roots(0, 1)", v -> v.roots(0, 1));
        Check.refused("roots(1, 1)", v -> v.roots(1, 1));
        Check.due("2", two(2, 1).roots(0, 1), -1);
        Check.due("one less than 0", two(TOP, 1).roots(0, 1), -1);
        Check.sentence("18", "likewise: NONE: no such ones, no THINGS");
        for (int row : NO_ROWS) {
            Check.refused("roots(" + row + ", 0)", v -> v.roots(row, 0));
            Check.refused("roots(2, " + row + ")", v -> v.roots(2, row));
        }
        Check.refusedWithoutThings("roots(0, 0)", v -> v.roots(0, 0));
    }
}
