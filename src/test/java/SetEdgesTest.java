import java.util.function.ToLongFunction;

/** Each sentence on what there is and on what sets tell (promises 1, 6 to 8, 19 to 26) that names a boundary. */
public final class SetEdgesTest {
    private static final int BIG = Integer.MAX_VALUE;
    private static final int SMALL = Integer.MIN_VALUE;
    private static final int[] NO_SETS = {-1, 8, 9, 256, BIG, SMALL};
    private static final int[] NO_COUNTS = {-1, 9, 10, BIG, SMALL};
    private static final String SINGLES = "things 8;set a;set b;set c;set d;set e;set f;set g;set h;";

    private SetEdgesTest() {
    }

    public static void main(String[] args) {
        newObject();
        now();
        weight();
        joined();
        covers();
        partings();
        cheapest();
        part();
        partRefused();
        colours();
        colour();
        colourings();
        hangs();
        askedInAnyOrder();
        Check.finish();
    }

    private static PartSums things(int n) {
        return Check.with("things " + n + ";");
    }

    private interface OfSet {
        long answer(PartSums x, int set);
    }

    private static void noSuchSet(String name, OfSet call) {
        for (int set : NO_SETS) {
            Check.refused(name + " of set " + set, x -> call.answer(x, set));
        }
        Check.refusedWithoutThings(name + " of set 0", x -> call.answer(x, 0));
        for (int n = 1; n <= 8; n++) {
            Check.due(name + " of all " + n, call.answer(things(n), (1 << n) - 1) >= -1, true);
            Check.due(name + " beyond all " + n, call.answer(things(n), 1 << n), -1);
        }
    }

    private static void newObject() {
        Check.sentence("1", "No THINGS (no SETS)");
        PartSums x = new PartSums();
        Check.due("the ground", Check.ground(x), "things 0 told 0 pairs 0 joined");
        Check.due("thing 0", x.joined(0), -1);
        Check.due("the empty set", x.weight(0), -1);
        Check.due("set 1", x.weight(1), -1);
        Check.due("no row", x.at(0, 0), -1);
        Check.sentence("1", "an empty tape");
        Check.due("bytes", x.now(4), 0);
        Check.due("no byte", x.end(1), false);
        Check.due("an empty text", x.text(), 0);
        Check.reading("1", "and nothing else");
        PartSums y = new PartSums();
        Check.due("acts", y.now(3), 0);
        Check.due("undo", y.undo(), -1);
        Check.due("fault", y.fault(), 0);
        Check.due("image 0", y.restore(0), false);
        Check.due("image 1", y.restore(1), false);
        Check.reading("1", "an object of its own");
        PartSums other = Check.busy();
        Check.due("a new one", Check.state(new PartSums()),
            "things 0 told 0 pairs 0 joined acts 0 bytes 0 fault 0");
        Check.due("things of the other", other.now(0), 3);
    }

    private static void now() {
        Check.sentence("6", "0 THINGS");
        for (int n = 1; n <= 8; n++) {
            Check.due("things", things(n).now(0), n);
        }
        Check.sentence("6", "1 SETS that are TOLD");
        PartSums x = things(8);
        Check.due("none", x.now(1), 0);
        for (int set = 0; set < 256; set++) {
            x.weigh(set, 1);
        }
        Check.due("each one, the empty one, too", x.now(1), 256);
        x.weigh(255, 999);
        Check.due("told still", x.now(1), 256);
        x.weigh(255, 0);
        Check.due("told no more", x.now(1), 255);
        Check.sentence("6", "2 PAIRS");
        Check.due("none", x.now(2), 0);
        for (int n = 1; n <= 8; n++) {
            Check.due("each two of " + n, Check.with(Check.complete(n)).now(2), n * (n - 1) / 2);
        }
        Check.sentence("6", "3 acts that can be undone");
        PartSums y = things(1);
        for (int i = 0; i <= 10; i++) {
            Check.due("acts", y.now(3), Math.min(i, 8));
            y.put(0, 0, i);
        }
        Check.sentence("6", "4 bytes of the tape");
        Check.due("none", y.now(4), 0);
        for (int i = 1; i <= 27; i++) {
            y.feed(0, 0, 0, 0, 0);
            Check.due("bytes", y.now(4), 20 * i);
        }
        Check.sentence("6", "NONE for another what");
        for (int what : new int[] {-1, 5, 6, BIG, SMALL}) {
            Check.refused("now(" + what + ")", z -> z.now(what));
            Check.refusedWithoutThings("now(" + what + ")", z -> z.now(what));
        }
    }

    private static void weight() {
        Check.sentence("7", "WEIGHT of a SET (0: not TOLD)");
        PartSums x = Check.with("things 8;set a;set abcdefgh 999;");
        Check.due("the empty one", x.weight(0), 0);
        Check.due("a", x.weight(1), 1);
        Check.due("b", x.weight(2), 0);
        Check.due("all but a", x.weight(254), 0);
        Check.due("all", x.weight(255), 999);
        x.weigh(0, 5);
        Check.due("the empty one", x.weight(0), 5);
        Check.sentence("7", "NONE: no such one");
        noSuchSet("weight", (y, set) -> y.weight(set));
    }

    private static void joined() {
        Check.sentence("8", "THINGS that one is JOINED with, as bits");
        for (int n = 1; n <= 8; n++) {
            PartSums x = Check.with(Check.complete(n));
            for (int thing = 0; thing < n; thing++) {
                Check.due("each other one", x.joined(thing), (1 << n) - 1 - (1 << thing));
                Check.due("none", things(n).joined(thing), 0);
            }
        }
        Check.sentence("8", "NONE: no such one");
        for (int n = 1; n <= 8; n++) {
            Check.due("one beyond " + n, things(n).joined(n), -1);
        }
        for (int thing : new int[] {-1, 3, 8, 31, 32, 33, 64, BIG, SMALL}) {
            Check.refused("joined(" + thing + ")", x -> x.joined(thing));
        }
        Check.refusedWithoutThings("joined(0)", x -> x.joined(0));
    }

    private static void noSuchCount(String name, int[] counts, OfSet call) {
        for (int k : counts) {
            Check.refused(name + " " + k, x -> call.answer(x, k));
        }
    }

    private static void covers() {
        Check.sentence("19", "rows of k (0 to 8)");
        PartSums x = Check.with(SINGLES);
        Check.due("0 make the empty one", x.covers(0, 0), 1);
        Check.due("0 make no other", x.covers(1, 0), 0);
        Check.due("0 make not all", x.covers(255, 0), 0);
        Check.due("7 are too few", x.covers(255, 7), 0);
        Check.due("8 make all", x.covers(255, 8), 40_320);
        noSuchCount("covers", NO_COUNTS, (y, k) -> y.covers(0, k));
        Check.sentence("19", "TOLD SETS");
        Check.due("none told", things(2).covers(3, 1), 0);
        Check.due("none told", things(2).covers(0, 0), 1);
        PartSums e = Check.with("things 1;set a 999;");
        Check.due("a alone", e.covers(0, 1), 0);
        e.weigh(0, 1);
        Check.due("the empty one told", e.covers(0, 8), 1);
        Check.due("the empty one told", e.covers(1, 2), 3);
        Check.sentence("19", "in order");
        PartSums y = Check.with("things 2;set a 7;set b 9;");
        Check.due("ab, ba", y.covers(3, 2), 2);
        Check.sentence("19", "the same one as often as one likes");
        Check.due("a, eight times", y.covers(1, 8), 1);
        Check.due("aab and so on", y.covers(3, 3), 6);
        Check.sentence("19", "make a SET together");
        PartSums z = Check.with("things 2;set ab;set a;");
        Check.due("ab alone, or with a", z.covers(3, 2), 3);
        Check.due("not more than the set", z.covers(1, 2), 1);
        Check.due("not b", z.covers(2, 2), 0);
        Check.sentence("19", "modulo 1,000,003");
        PartSums w = things(8);
        for (int set = 0; set < 256; set++) {
            w.weigh(set, 1);
        }
        long want = 1;
        for (int i = 0; i < 8; i++) {
            want = want * 255 % 1_000_003;
        }
        Check.due("of all sets", w.covers(255, 8), want);
        Check.due("two of all sets", w.covers(255, 2), 6561);
        Check.sentence("19", "NONE: no such ones");
        noSuchSet("covers", (v, set) -> v.covers(set, 0));
        noSuchSet("covers 8", (v, set) -> v.covers(set, 8));
    }

    private static void partings() {
        Check.sentence("20", "k 0 to 8");
        PartSums x = Check.with(SINGLES);
        for (int k = 0; k <= 8; k++) {
            Check.due("all into " + k, x.partings(255, k), k == 8 ? 1 : 0);
            Check.due("the empty one into " + k, x.partings(0, k), k == 0 ? 1 : 0);
        }
        noSuchCount("partings", NO_COUNTS, (y, k) -> y.partings(0, k));
        Check.sentence("20", "into k TOLD SETS");
        PartSums y = Check.with("things 2;set a 999;set ab;");
        Check.due("a and b", y.partings(3, 2), 0);
        Check.due("ab", y.partings(3, 1), 1);
        y.weigh(2, 1);
        Check.due("a and b", y.partings(3, 2), 1);
        Check.sentence("20", "not empty");
        y.weigh(0, 1);
        Check.due("the empty one into itself", y.partings(0, 1), 0);
        Check.due("ab and nothing", y.partings(3, 2), 1);
        Check.due("a, b and nothing", y.partings(3, 3), 0);
        Check.sentence("20", "in no order");
        PartSums z = things(8);
        for (int set = 1; set < 256; set++) {
            z.weigh(set, 1);
        }
        int[] ways = {0, 1, 127, 966, 1701, 1050, 266, 28, 1};
        for (int k = 0; k <= 8; k++) {
            Check.due("eight into " + k, z.partings(255, k), ways[k]);
        }
        Check.sentence("20", "NONE: no such ones");
        noSuchSet("partings", (v, set) -> v.partings(set, 0));
        noSuchSet("partings 8", (v, set) -> v.partings(set, 8));
    }

    private static void cheapest() {
        Check.sentence("21", "0 of the empty one");
        Check.due("nothing told", things(1).cheapest(0), 0);
        PartSums x = things(1);
        x.weigh(0, 9);
        Check.due("it is told", x.cheapest(0), 0);
        Check.sentence("21", "PRICE .. their WEIGHTS together; CHEAPEST: the least");
        PartSums y = Check.with("things 2;set a 400;set b 600;set ab 999;");
        Check.due("ab is less", y.cheapest(3), 999);
        y.weigh(1, 399);
        Check.due("both are the same", y.cheapest(3), 999);
        y.weigh(1, 398);
        Check.due("a and b are less", y.cheapest(3), 998);
        PartSums dear = Check.with("things 8;set a 999;set b 999;set c 999;set d 999;set e 999;set f 999;set g 999;"
            + "set h 999;");
        Check.due("the dearest", dear.cheapest(255), 7992);
        Check.sentence("21", "a parting into TOLD SETS (not empty)");
        y.weigh(0, 1);
        Check.due("not with the empty one", y.cheapest(3), 998);
        Check.sentence("21", "NONE: there is none");
        Check.due("nothing told", things(1).cheapest(1), -1);
        Check.due("they have something in common", Check.with("things 3;set ab;set bc;").cheapest(7), -1);
        Check.due("they have too much", Check.with("things 3;set abc;").cheapest(3), -1);
        PartSums e = things(1);
        e.weigh(0, 1);
        Check.due("the empty one alone", e.cheapest(1), -1);
        Check.sentence("21", "NONE: .. no such SET");
        noSuchSet("cheapest", (z, set) -> z.cheapest(set));
    }

    private static void parts(String what, PartSums x, int set, int... want) {
        for (int i = 0; i < want.length; i++) {
            Check.due(what + ", part " + i, Check.part(x, set, i), want[i]);
        }
        Check.due(what + ", no more", Check.part(x, set, want.length), -2);
        Check.due(what + ", no more", Check.part(x, set, want.length + 1), -2);
    }

    private static void part() {
        Check.sentence("22", "told from the SET with the least THING on");
        parts("ac, b", Check.with("things 3;set b;set ac;"), 7, 5, 2);
        parts("ah, b..g", Check.with("things 8;set bcdefg;set ah;"), 255, 129, 126);
        parts("bc, d", Check.with("things 4;set d;set bc;"), 14, 6, 8);
        parts("eight", Check.with(SINGLES), 255, 1, 2, 4, 8, 16, 32, 64, 128);
        Check.sentence("22", "each time the least SET (as a number) with the least THING that is left");
        parts("a, bc or ab, c", Check.with("things 3;set a;set bc;set ab;set c;"), 7, 1, 6);
        parts("ac, b or ab, c", Check.with("things 3;set ac;set b;set ab;set c;"), 7, 3, 4);
        parts("d left, with less", Check.with("things 4;set a;set bd;set c;set bc;set d;"), 15, 1, 6, 8);
        parts("abc or a, b, c", Check.with("things 3;set abc 3;set a;set b;set c;"), 7, 1, 2, 4);
        Check.sentence("22", "by which, with those ahead, that PRICE comes about");
        parts("a is dear", Check.with("things 3;set a 5;set bc;set ab 2;set c 3;"), 7, 3, 4);
        parts("a leads nowhere", Check.with("things 3;set a;set b;set ab;set c;set bc 9;set abc 2;"), 7, 3, 4);
        parts("ab leads nowhere", Check.with("things 4;set ab;set ac;set bd;"), 15, 5, 10);
        Check.sentence("22", "into TOLD SETS (not empty)");
        PartSums x = Check.with("things 1;set a;");
        x.weigh(0, 1);
        parts("without the empty one", x, 1, 1);
    }

    private static void throwing(String what, ToLongFunction<PartSums> call) {
        PartSums x = Check.busy();
        String ahead = Check.state(x);
        Check.due(what, call.applyAsLong(x), -2);
        Check.due("a call that throws changes nothing: " + what, Check.state(x), ahead);
        Check.due("it throws again: " + what, call.applyAsLong(x), -2);
        Check.due("undo behind it", x.undo(), 5);
        Check.due("bytes behind it", x.now(4), 20);
        Check.due("the image behind it", x.restore(0), true);
    }

    private static void partRefused() {
        Check.sentence("22", "NoSuchElementException: there is none");
        for (int i : new int[] {-1, 2, 3, 7, 8, 9, 31, 32, BIG, SMALL}) {
            throwing("part(7, " + i + ")", y -> Check.part(y, 7, i));
        }
        throwing("of the empty set", y -> Check.part(y, 0, 0));
        for (int set : NO_SETS) {
            throwing("of set " + set, y -> Check.part(y, set, 0));
        }
        PartSums x = Check.busy();
        x.weigh(2, 0);
        x.weigh(3, 0);
        x.weigh(6, 0);
        String ahead = Check.state(x);
        Check.due("that can't be parted", Check.part(x, 7, 0), -2);
        Check.due("a call that throws changes nothing: that can't be parted", Check.state(x), ahead);
        Check.due("without things", Check.part(new PartSums(), 0, 0), -2);
        Check.due("without things", Check.part(new PartSums(), 1, 0), -2);
        Check.due("nothing told", Check.part(things(1), 1, 0), -2);
        Check.due("the ninth", Check.part(Check.with(SINGLES), 255, 8), -2);
    }

    private static void colours() {
        Check.sentence("23", "The fewest COLOURS with which a SET can be COLOURED");
        for (int n = 1; n <= 8; n++) {
            PartSums x = Check.with(Check.complete(n));
            Check.due("each two joined", x.colours((1 << n) - 1), n);
            Check.due("one", x.colours(1 << (n - 1)), 1);
            Check.due("no two joined", things(n).colours((1 << n) - 1), 1);
        }
        PartSums ring = Check.with("things 7;pair ab;pair bc;pair cd;pair de;pair ef;pair fg;pair ga;");
        Check.due("an odd ring", ring.colours(127), 3);
        Check.due("a line of it", ring.colours(63), 2);
        Check.due("pairs that go out of it", ring.colours(5), 1);
        Check.sentence("23", "0 for the empty one");
        Check.due("the empty one", ring.colours(0), 0);
        Check.due("the empty one", things(1).colours(0), 0);
        Check.sentence("23", "NONE: no such one");
        noSuchSet("colours", (x, set) -> x.colours(set));
    }

    private static void painted(String what, PartSums x, int set, int... want) {
        for (int thing = 0; thing < want.length; thing++) {
            Check.due(what + ", thing " + thing, x.colour(set, thing), want[thing]);
        }
    }

    private static void colour() {
        Check.sentence("24", "THING by THING (of the SET, rising) the least COLOUR (from 0)");
        painted("no pairs", things(8), 255, 0, 0, 0, 0, 0, 0, 0, 0);
        painted("each two joined", Check.with(Check.complete(8)), 255, 0, 1, 2, 3, 4, 5, 6, 7);
        painted("each two joined", Check.with(Check.complete(8)), 170, -1, 0, -1, 1, -1, 2, -1, 3);
        Check.sentence("24", "by which it can be ended with as many");
        painted("a - c - d - b", Check.with("things 4;pair ac;pair cd;pair db;"), 15, 0, 1, 1, 0);
        painted("without d", Check.with("things 4;pair ac;pair cd;pair db;"), 7, 0, 0, 1, -1);
        painted("a ring of five", Check.with("things 5;pair ab;pair bc;pair cd;pair de;pair ea;"), 31, 0, 1, 0, 1, 2);
        painted("a far one", Check.with("things 8;pair ah;pair hb;pair bg;pair gc;pair cf;pair fd;pair de;"), 255,
            0, 0, 0, 0, 1, 1, 1, 1);
        Check.sentence("24", "NONE: no such ones");
        noSuchSet("colour", (x, set) -> x.colour(set, 0));
        for (int thing : new int[] {-1, 3, 8, 31, 32, 33, 64, BIG, SMALL}) {
            Check.refused("colour(7, " + thing + ")", x -> x.colour(7, thing));
        }
        Check.sentence("24", "the COLOUR of a THING of it");
        Check.refused("colour(6, 0)", x -> x.colour(6, 0));
        Check.refused("colour(0, 0)", x -> x.colour(0, 0));
        Check.refused("colour(3, 2)", x -> x.colour(3, 2));
    }

    private static void colourings() {
        Check.sentence("25", "with k (0 to 99) COLOURS");
        PartSums x = Check.with("things 3;pair ab;pair bc;");
        Check.due("the empty one with 0", x.colourings(0, 0), 1);
        Check.due("the empty one with 99", x.colourings(0, 99), 1);
        Check.due("one with 0", x.colourings(1, 0), 0);
        Check.due("one with 1", x.colourings(1, 1), 1);
        Check.due("one with 99", x.colourings(1, 99), 99);
        Check.due("a line with 0", x.colourings(7, 0), 0);
        Check.due("a line with 1", x.colourings(7, 1), 0);
        Check.due("a line with 2", x.colourings(7, 2), 2);
        Check.due("a line with 99", x.colourings(7, 99), 99L * 98 * 98);
        Check.due("its ends with 99", x.colourings(5, 99), 99L * 99);
        noSuchCount("colourings", new int[] {-1, 100, 101, BIG, SMALL}, (y, k) -> y.colourings(7, k));
        noSuchCount("colourings", new int[] {-1, 100, 101, BIG, SMALL}, (y, k) -> y.colourings(0, k));
        Check.reading("25", "In how many ways (not modulo)");
        Check.due("no pairs", things(8).colourings(255, 99), 9_227_446_944_279_201L);
        Check.due("each two joined", Check.with(Check.complete(8)).colourings(255, 99),
            99L * 98 * 97 * 96 * 95 * 94 * 93 * 92);
        Check.due("each two joined, 8", Check.with(Check.complete(8)).colourings(255, 8), 40_320);
        Check.due("each two joined, 7", Check.with(Check.complete(8)).colourings(255, 7), 0);
        Check.sentence("25", "COLOURS that are told apart");
        Check.due("two for one pair", x.colourings(3, 2), 2);
        Check.sentence("25", "NONE: no such ones");
        noSuchSet("colourings", (y, set) -> y.colourings(set, 0));
        noSuchSet("colourings 99", (y, set) -> y.colourings(set, 99));
    }

    /** Everything that only tells, and acts that are undone at once: none leaves a trace in what others tell. */
    private static long ask(PartSums x, int k) {
        switch (k) {
            case 0: return x.covers(7, 3);
            case 1: return x.partings(7, 2);
            case 2: return x.cheapest(7);
            case 3: return Check.part(x, 7, 1);
            case 4: return x.colours(7);
            case 5: return x.colour(7, 1);
            case 6: return x.colourings(7, 99);
            case 7: return x.hangs(7);
            case 8: return x.cheapest(0);
            case 9: return x.hangs(0);
            case 10: return Check.part(x, 0, 0);
            case 11: return Check.part(x, 6, 0);
            case 12: return x.colours(0);
            case 13: return x.partings(0, 0);
            case 14: return x.covers(0, 0);
            case 15: return x.colourings(0, 0);
            default: return actAndUndo(x, k - 16);
        }
    }

    private static long actAndUndo(PartSums x, int k) {
        long got = k == 0 ? x.lay(3, 4) : k == 1 ? x.lay(3, 6) : k == 2 ? x.lay(3, 5) : k == 3 ? x.times(0, 2, 3, 3)
            : k == 4 ? x.times(0, 2, 0, 3) : k == 5 ? x.power(0, 5, 3) : k == 6 ? x.inverse(0, 3)
            : k == 7 ? x.allWays(1, 3) : k == 8 ? x.roots(2, 3) : x.sum(0, true);
        got = got * 1_000_003 + (k < 9 ? x.at(3, 0) : x.at(0, 7));
        x.undo();
        return got;
    }

    private static void askedInAnyOrder() {
        Check.reading("19 to 26", "they tell, and change nothing");
        int calls = 26;
        PartSums x = Check.busy();
        String ground = Check.ground(x);
        long[] alone = new long[calls];
        for (int k = 0; k < calls; k++) {
            alone[k] = ask(Check.busy(), k);
        }
        for (int first = 0; first < calls; first++) {
            PartSums y = Check.busy();
            for (int k = 0; k < calls; k++) {
                ask(y, first);
                Check.due("call " + k + " behind call " + first, ask(y, k), alone[k]);
            }
            Check.due("the ground", Check.ground(y), ground);
        }
    }

    private static void hangs() {
        Check.sentence("26", "With how many sets of its PAIRS a SET HANGS TOGETHER");
        int[] ways = {1, 1, 4, 38, 728, 26_704, 1_866_256, 251_548_592};
        PartSums x = Check.with(Check.complete(8));
        for (int n = 1; n <= 8; n++) {
            Check.due("each two of " + n, x.hangs((1 << n) - 1), ways[n - 1]);
            Check.due("no two of " + n, things(n).hangs((1 << n) - 1), n == 1 ? 1 : 0);
        }
        Check.due("the upper four", x.hangs(240), 38);
        Check.sentence("26", "a SET with some of its PAIRS (both in it)");
        PartSums line = Check.with("things 3;pair ab;pair bc;");
        Check.due("its ends", line.hangs(5), 0);
        Check.due("the line", line.hangs(7), 1);
        Check.due("one", line.hangs(2), 1);
        Check.sentence("26", "the empty one: 0");
        Check.due("the empty one", x.hangs(0), 0);
        Check.due("the empty one", things(1).hangs(0), 0);
        Check.sentence("26", "NONE: no such one");
        noSuchSet("hangs", (y, set) -> y.hangs(set));
    }
}
