import java.util.function.Consumer;
import java.util.function.Predicate;

/** Each sentence on changes, undoing, images and new texts (promises 27 to 33) that names a boundary, by itself. */
public final class ActEdgesTest {
    private static final int BIG = Integer.MAX_VALUE;
    private static final int SMALL = Integer.MIN_VALUE;
    private static final int[] NO_THINGS = {-1, 3, 8, 31, 32, 33, 64, BIG, SMALL};

    private ActEdgesTest() {
    }

    public static void main(String[] args) {
        weigh();
        join();
        name();
        drawnDeeds();
        drawnWeights();
        drawnSeeds();
        drawnRefused();
        undoEach();
        undoRefused();
        undoMany();
        image();
        restore();
        restoreRefused();
        newText();
        manyCalls();
        Check.finish();
    }

    private static PartSums things(int n) {
        return Check.with("things " + n + ";");
    }

    private static void weigh() {
        Check.sentence("27", "A SET has a WEIGHT (1 to 999)");
        PartSums x = things(8);
        Check.due("1", x.weigh(255, 1), 0);
        Check.due("1", x.weight(255), 1);
        Check.due("999", x.weigh(255, 999), 1);
        Check.due("999", x.weight(255), 999);
        Check.due("told", x.now(1), 1);
        Check.due("the empty one", x.weigh(0, 999), 0);
        Check.due("the empty one", x.weight(0), 999);
        for (int w : new int[] {-1, 1000, 1001, BIG, SMALL}) {
            Check.refused("weigh(1, " + w + ")", y -> y.weigh(1, w));
        }
        Check.sentence("27", "or is not TOLD (0)");
        Check.due("no more", x.weigh(255, 0), 999);
        Check.due("no more", x.weight(255), 0);
        Check.due("the empty one", x.weigh(0, 0), 999);
        Check.due("told", x.now(1), 0);
        Check.sentence("27", "what it had (0: not TOLD)");
        Check.due("not told", x.weigh(3, 5), 0);
        Check.due("told", x.weigh(3, 6), 5);
        Check.due("told", x.weigh(3, 0), 6);
        Check.due("not told", x.weigh(3, 7), 0);
        Check.sentence("27", "NONE: .. it is so");
        Check.refused("weigh(1, 2)", y -> y.weigh(1, 2));
        Check.refused("weigh(7, 0)", y -> y.weigh(7, 0));
        Check.refused("weigh(0, 0)", y -> y.weigh(0, 0));
        Check.sentence("27", "NONE: no such ones");
        for (int set : new int[] {-1, 8, 9, 256, BIG, SMALL}) {
            Check.refused("weigh(" + set + ", 1)", y -> y.weigh(set, 1));
            Check.refused("weigh(" + set + ", 0)", y -> y.weigh(set, 0));
        }
        for (int n = 1; n <= 8; n++) {
            Check.due("all " + n, things(n).weigh((1 << n) - 1, 1), 0);
            Check.due("beyond " + n, things(n).weigh(1 << n, 1), -1);
        }
        Check.refusedWithoutThings("weigh(0, 1)", y -> y.weigh(0, 1));
        Check.refusedWithoutThings("weigh(0, 0)", y -> y.weigh(0, 0));
    }

    private static void join() {
        Check.sentence("28", "Two THINGS are JOINED (is), or not: how many PAIRS there are");
        PartSums x = things(8);
        int pairs = 0;
        for (int a = 0; a < 8; a++) {
            for (int b = 0; b < a; b++) {
                pairs++;
                Check.due("joined", x.join(pairs % 2 == 0 ? a : b, pairs % 2 == 0 ? b : a, true), pairs);
            }
        }
        Check.due("each", x.joined(7), 127);
        Check.due("each", x.joined(0), 254);
        Check.due("parted", x.join(7, 0, false), 27);
        Check.due("of one", x.joined(7), 126);
        Check.due("of the other", x.joined(0), 126);
        Check.due("the first and only one", things(2).join(1, 0, true), 1);
        PartSums y = Check.with("things 2;pair ab;");
        Check.due("none left", y.join(0, 1, false), 0);
        Check.sentence("28", "NONE: .. it is so");
        Check.refused("join(0, 1, true)", z -> z.join(0, 1, true));
        Check.refused("join(1, 0, true)", z -> z.join(1, 0, true));
        Check.refused("join(0, 2, false)", z -> z.join(0, 2, false));
        Check.refused("join(2, 0, false)", z -> z.join(2, 0, false));
        Check.sentence("28", "NONE: .. one alone");
        for (int thing = 0; thing < 3; thing++) {
            int t = thing;
            Check.refused("join(" + t + ", " + t + ", true)", z -> z.join(t, t, true));
            Check.refused("join(" + t + ", " + t + ", false)", z -> z.join(t, t, false));
        }
        Check.sentence("28", "NONE: no such ones");
        for (int thing : NO_THINGS) {
            for (boolean is : new boolean[] {true, false}) {
                Check.refused("join(0, " + thing + ", " + is + ")", z -> z.join(0, thing, is));
                Check.refused("join(" + thing + ", 2, " + is + ")", z -> z.join(thing, 2, is));
            }
        }
        Check.refusedWithoutThings("join(0, 1, true)", z -> z.join(0, 1, true));
        Check.refusedWithoutThings("join(0, 1, false)", z -> z.join(0, 1, false));
    }

    private static void name() {
        Check.sentence("29", "Two THINGS change names (in SETS, PAIRS, ROWS)");
        PartSums x = Check.with("things 3;set a 2;set ab 4;set bc 9;pair ab;");
        for (int row = 0; row < 4; row++) {
            Check.fill(x, row, 1, 2, 3, 4, 5, 6, 7, 8 + row);
        }
        x.name(0, 2);
        Check.due("a, c", Check.ground(x), "things 3 told 3 pairs 1 joined 0 4 2 | 0 1 1 1 1 | 0 5 5 5 5 | 0 3 3 3 3"
            + " | 9 7 7 7 7 | 2 2 2 2 2 | 0 6 6 6 6 | 4 4 4 4 4 | 0 8 9 10 11");
        x.name(2, 0);
        Check.due("c, a: as ahead of both", Check.ground(x), "things 3 told 3 pairs 1 joined 2 1 0 | 0 1 1 1 1"
            + " | 2 2 2 2 2 | 0 3 3 3 3 | 4 4 4 4 4 | 0 5 5 5 5 | 0 6 6 6 6 | 9 7 7 7 7 | 0 8 9 10 11");
        PartSums joined = Check.with("things 3;pair ab;pair bc;");
        joined.name(0, 1);
        Check.due("two that are joined stay so", joined.joined(0), 6);
        Check.due("two that are joined stay so", joined.joined(1), 1);
        PartSums third = Check.with("things 4;pair ab;pair cd;");
        third.name(1, 2);
        Check.due("a is joined with c", third.joined(0), 4);
        Check.due("b is joined with d", third.joined(1), 8);
        Check.due("c is joined with a", third.joined(2), 1);
        Check.due("d is joined with b", third.joined(3), 2);
        third.name(3, 2);
        Check.due("a is joined with d", third.joined(0), 8);
        Check.due("b is joined with c", third.joined(1), 4);
        PartSums far = Check.with("things 8;set a 3;set h 4;set ah 5;pair ab;pair gh;");
        far.name(7, 0);
        Check.due("h", far.weight(128), 3);
        Check.due("a", far.weight(1), 4);
        Check.due("ah", far.weight(129), 5);
        Check.due("h is joined with b", far.joined(7), 2);
        Check.due("a is joined with g", far.joined(0), 64);
        Check.sentence("29", "how many SETS that are TOLD have just one of them");
        Check.due("none told", things(2).name(0, 1), 0);
        Check.due("both", Check.with("things 2;set ab;").name(0, 1), 0);
        Check.due("neither", Check.with("things 3;set c;").name(0, 1), 0);
        Check.due("the one", Check.with("things 3;set ac;").name(0, 1), 1);
        Check.due("the other", Check.with("things 3;set bc;").name(0, 1), 1);
        PartSums all = things(8);
        for (int set = 0; set < 256; set++) {
            all.weigh(set, 1);
        }
        Check.due("half of all", all.name(0, 7), 128);
        Check.sentence("29", "NONE: .. one alone");
        for (int thing = 0; thing < 3; thing++) {
            int t = thing;
            Check.refused("name(" + t + ", " + t + ")", y -> y.name(t, t));
        }
        Check.sentence("29", "NONE: no such ones");
        for (int thing : NO_THINGS) {
            Check.refused("name(0, " + thing + ")", y -> y.name(0, thing));
            Check.refused("name(" + thing + ", 0)", y -> y.name(thing, 0));
            Check.refused("name(" + thing + ", " + thing + ")", y -> y.name(thing, thing));
        }
        Check.refusedWithoutThings("name(0, 1)", y -> y.name(0, 1));
    }

    /** What one deed draws: its kind, a thing or a set, a thing or a weight, and the seed behind it. */
    private static int[] deed(int seed, int things) {
        int[] s = {seed};
        int kind = draw(s, 3);
        int first = draw(s, kind == 0 ? things : 1 << things);
        int second = kind == 0 ? draw(s, things) : kind == 1 ? draw(s, 100) + 1 : 0;
        return new int[] {kind, first, second, s[0]};
    }

    private static int draw(int[] s, int n) {
        s[0] = s[0] * 1103515245 + 12345;
        return (s[0] >>> 8) % n;
    }

    private static int seedOf(int things, Predicate<int[]> wanted) {
        for (int seed = 0; seed < 10_000_000; seed++) {
            if (wanted.test(deed(seed, things))) {
                return seed;
            }
        }
        Check.due("there is a seed", false, true);
        return 0;
    }

    private static void drawnDeeds() {
        Check.sentence("30", "0: two draws of THINGS .. they are JOINED");
        int pair = seedOf(8, d -> d[0] == 0 && d[1] == 7 && d[2] == 0);
        PartSums x = things(8);
        Check.due("told", x.drawn(1, pair), 0);
        Check.due("h", x.joined(7), 1);
        Check.due("a", x.joined(0), 128);
        Check.due("pairs", x.now(2), 1);
        Check.sentence("30", "or parted");
        x.drawn(1, pair);
        Check.due("pairs", x.now(2), 0);
        x.drawn(1, seedOf(8, d -> d[0] == 0 && d[1] == 0 && d[2] == 7));
        Check.due("pairs", x.now(2), 1);
        x.drawn(1, pair);
        Check.due("pairs", x.now(2), 0);
        Check.sentence("30", "alike: nothing");
        for (int thing = 0; thing < 3; thing++) {
            int t = thing;
            PartSums y = Check.busy();
            String ahead = Check.ground(y);
            y.drawn(1, seedOf(3, d -> d[0] == 0 && d[1] == t && d[2] == t));
            Check.due("the ground", Check.ground(y), ahead);
            Check.due("an act still", y.now(3), 7);
        }
        PartSums one = things(1);
        one.drawn(1, seedOf(1, d -> d[0] == 0));
        Check.due("one thing alone", Check.ground(one), "things 1 told 0 pairs 0 joined 0 | 0 0 0 0 0 | 0 0 0 0 0");
    }

    private static void drawnWeights() {
        Check.sentence("30", "1: a draw of ALL SETS, of 100 (and 1): that SET is TOLD with that WEIGHT");
        PartSums x = things(8);
        Check.due("told", x.drawn(1, seedOf(8, d -> d[0] == 1 && d[1] == 0)), 1);
        Check.due("the empty one, too", x.weight(0) > 0, true);
        Check.due("told", x.drawn(1, seedOf(8, d -> d[0] == 1 && d[1] == 255)), 2);
        Check.due("all, too", x.weight(255) > 0, true);
        PartSums y = things(3);
        Check.due("told", y.drawn(1, seedOf(3, d -> d[0] == 1 && d[1] == 5 && d[2] == 1)), 1);
        Check.due("the least", y.weight(5), 1);
        Check.sentence("30", "or has it");
        Check.due("told already", y.drawn(1, seedOf(3, d -> d[0] == 1 && d[1] == 5 && d[2] == 100)), 1);
        Check.due("the greatest", y.weight(5), 100);
        Check.sentence("30", "2: a draw of ALL SETS: that one is TOLD no more (was it TOLD)");
        int gone = seedOf(3, d -> d[0] == 2 && d[1] == 5);
        y.weigh(4, 7);
        Check.due("it was", y.drawn(1, gone), 1);
        Check.due("no more", y.weight(5), 0);
        Check.due("another one", y.weight(4), 7);
        String ahead = Check.ground(y);
        Check.due("it was not", y.drawn(1, gone), 1);
        Check.due("the ground", Check.ground(y), ahead);
        y.weigh(0, 3);
        Check.due("the empty one", y.drawn(1, seedOf(3, d -> d[0] == 2 && d[1] == 0)), 1);
        Check.due("the empty one", y.weight(0), 0);
        y.weigh(7, 3);
        Check.due("all", y.drawn(1, seedOf(3, d -> d[0] == 2 && d[1] == 7)), 1);
        Check.due("all", y.weight(7), 0);
    }

    private static void drawnSeeds() {
        Check.sentence("30", "s becomes s * 1103515245 + 12345 (an int, wrapping), the draw is (s >>> 8) % n");
        for (int seed : new int[] {0, 1, -1, BIG, SMALL, -77, 1_103_515_245}) {
            for (int n : new int[] {1, 2, 3, 5, 8}) {
                PartSums at = things(n);
                PartSums bit = things(n);
                at.drawn(60, seed);
                int s = seed;
                for (int i = 0; i < 60; i++) {
                    bit.drawn(1, s);
                    s = deed(s, n)[3];
                }
                for (int set = 0; set < Math.min(32, 1 << n); set++) {
                    Check.due("weight " + set + " by " + seed, at.weight(set), bit.weight(set));
                }
                for (int thing = 0; thing < n; thing++) {
                    Check.due("joined " + thing + " by " + seed, at.joined(thing), bit.joined(thing));
                }
            }
        }
        Check.reading("30", "rows are not touched");
        PartSums x = Check.busy();
        x.drawn(60, 9);
        Check.row("row 0", x, 0, 5, 6, 7, 8, 9, 10, 11, 12);
        Check.row("row 3", x, 3, 0, 0, 0, 0, 1_000_002, 0, 0, 0);
        Check.sentence("30", "how many SETS are TOLD then");
        for (int seed = 0; seed < 20; seed++) {
            Check.due("told", x.drawn(60, seed), x.now(1));
        }
    }

    private static void drawnRefused() {
        Check.sentence("30", "n (1 to 60) .. NONE: not as told");
        for (int n : new int[] {-1, 0, 61, 62, BIG, SMALL}) {
            Check.refused("drawn(" + n + ", 5)", x -> x.drawn(n, 5));
            Check.refusedWithoutThings("drawn(" + n + ", 5)", x -> x.drawn(n, 5));
        }
        Check.due("1", things(8).drawn(1, 5) >= 0, true);
        Check.due("60", things(8).drawn(60, 5) >= 0, true);
        Check.sentence("30", "Without THINGS: no more draws of that DEED");
        for (int n : new int[] {1, 30, 60}) {
            PartSums x = new PartSums();
            Check.due("none are told", x.drawn(n, 5), 0);
            Check.due("no act", Check.state(x), "things 0 told 0 pairs 0 joined acts 0 bytes 0 fault 0");
            Check.due("nothing to undo", x.undo(), -1);
        }
    }

    private static final String[] NAMES = {"put", "lay", "sum over parts", "sum over holders", "back from parts",
        "back from holders", "times", "times into itself", "power", "power into itself", "inverse",
        "inverse into itself", "allWays", "allWays into itself", "roots", "roots into itself", "weigh", "weigh to 0",
        "join", "part two", "name", "drawn", "name of other ones"};

    /** On a busy object, each of these changes something. */
    private static long act(PartSums x, int k) {
        switch (k) {
            case 0: return x.put(3, 7, 4);
            case 1: return x.lay(1, 4);
            case 2: return x.sum(0, false);
            case 3: return x.sum(0, true);
            case 4: return x.back(0, false);
            case 5: return x.back(0, true);
            case 6: return x.times(0, 1, 1, 3);
            case 7: return x.times(0, 0, 0, 0);
            case 8: return x.power(0, 99, 3);
            case 9: return x.power(0, 0, 0);
            case 10: return x.inverse(0, 3);
            case 11: return x.inverse(0, 0);
            case 12: return x.allWays(1, 3);
            case 13: return x.allWays(1, 1);
            case 14: return x.roots(2, 3);
            case 15: return x.roots(2, 2);
            case 16: return x.weigh(7, 999);
            case 17: return x.weigh(6, 0);
            case 18: return x.join(0, 2, true);
            case 19: return x.join(0, 1, false);
            case 20: return x.name(2, 0);
            case 21: return x.drawn(60, 3);
            default: return x.name(1, 2);
        }
    }

    private static void undoEach() {
        Check.sentence("31", "The latest put(), lay(), .. name() that was not NONE, drawn() (of THINGS) is undone");
        for (int k = 0; k < NAMES.length; k++) {
            PartSums x = Check.busy();
            String ahead = Check.ground(x);
            Check.due(NAMES[k] + " is not NONE", act(x, k) != -1, true);
            Check.due(NAMES[k] + " changes something", Check.ground(x).equals(ahead), false);
            Check.due(NAMES[k] + " is an act", x.now(3), 7);
            Check.due("undo of " + NAMES[k], x.undo(), 6);
            Check.due("the ground behind undo of " + NAMES[k], Check.ground(x), ahead);
        }
        Check.reading("31", "one that leaves all as it was is undone, too");
        PartSums same = Check.busy();
        same.put(0, 0, 5);
        Check.due("put", same.now(3), 7);
        same.power(0, 1, 0);
        Check.due("power", same.now(3), 8);
        Check.due("undo", same.undo(), 7);
        Check.due("undo", same.undo(), 6);
        Check.reading("31", "the tape, the fault, images are not what is undone");
        PartSums x = Check.busy();
        x.put(0, 0, 77);
        x.image(1);
        x.feed(0, 0, 0, 0, 0);
        x.end(33);
        Check.due("acts", x.now(3), 7);
        Check.due("undo", x.undo(), 6);
        Check.due("bytes", x.now(4), 33);
        Check.due("the fault", x.fault(), 2);
        Check.due("the row", x.at(0, 0), 5);
        x.restore(1);
        Check.due("the image", x.at(0, 0), 77);
    }

    private static void undoRefused() {
        Check.sentence("31", "NONE: none is");
        PartSums fresh = new PartSums();
        Check.due("a new object", fresh.undo(), -1);
        Check.due("again", fresh.undo(), -1);
        PartSums x = things(2);
        Check.due("behind a text", x.undo(), -1);
        x.put(0, 0, 5);
        Check.due("one", x.undo(), 0);
        Check.due("no more", x.undo(), -1);
        Check.due("all stays", x.at(0, 0), 0);
        Check.due("no acts", x.now(3), 0);
        Check.sentence("31", "that was not NONE");
        x.put(0, 0, 5);
        x.put(4, 0, 1);
        x.lay(0, 8);
        x.sum(4, true);
        x.back(-1, true);
        x.times(0, 0, 7, 0);
        x.power(0, 100, 0);
        x.inverse(1, 0);
        x.allWays(0, 0);
        x.roots(0, 0);
        x.weigh(0, 0);
        x.join(0, 1, false);
        x.name(0, 0);
        x.drawn(0, 0);
        Check.due("acts", x.now(3), 1);
        Check.due("undo", x.undo(), 0);
        Check.due("the put", x.at(0, 0), 0);
        Check.sentence("31", "drawn() (of THINGS)");
        fresh.drawn(60, 5);
        Check.due("none without things", fresh.undo(), -1);
        x.drawn(60, 5);
        Check.due("one with things", x.undo(), 0);
    }

    private static void undoMany() {
        Check.sentence("31", "how many more can be (8 at most are kept)");
        for (int acts : new int[] {7, 8, 9, 10, 16, 17, 22}) {
            PartSums x = Check.with("things 3;set a 2;set b 3;set bc 9;pair ab;pair bc;");
            Check.fill(x, 0, 5, 6, 7);
            Check.fill(x, 1, 0, 1, 2);
            Check.fill(x, 2, 1, 1, 2);
            x.image(0);
            x.restore(0);
            String[] grounds = new String[acts + 1];
            grounds[0] = Check.ground(x);
            int done = 0;
            for (int k = 0; done < acts; k = (k + 5) % NAMES.length) {
                if (act(x, k) == -1) {
                    x.put(done % 4, done % 8, 1000 + done);
                }
                done++;
                grounds[done] = Check.ground(x);
            }
            int kept = Math.min(acts, 8);
            Check.due("acts", x.now(3), kept);
            for (int i = 1; i <= kept; i++) {
                Check.due("undo " + i + " of " + acts, x.undo(), kept - i);
                Check.due("the ground", Check.ground(x), grounds[acts - i]);
            }
            Check.due("no more of " + acts, x.undo(), -1);
            Check.due("the ground stays", Check.ground(x), grounds[acts - kept]);
            x.put(3, 0, 9);
            Check.due("anew", x.now(3), 1);
            Check.due("anew", x.undo(), 0);
            Check.due("the ground", Check.ground(x), grounds[acts - kept]);
        }
        Check.reading("31", "an act behind an undo");
        PartSums y = things(1);
        for (int i = 1; i <= 8; i++) {
            y.put(0, 0, i);
        }
        y.undo();
        y.undo();
        Check.due("six left", y.at(0, 0), 6);
        y.put(0, 0, 100);
        Check.due("acts", y.now(3), 7);
        Check.due("undo", y.undo(), 6);
        Check.due("six again", y.at(0, 0), 6);
        for (int i = 5; i >= 0; i--) {
            Check.due("undo", y.undo(), i);
            Check.due("the number", y.at(0, 0), i);
        }
        Check.due("none", y.undo(), -1);
    }

    private static void image() {
        Check.sentence("32", "THINGS, SETS, PAIRS, ROWS are kept in place k (0, 1): true");
        for (int place = 0; place <= 1; place++) {
            PartSums x = Check.busy();
            String ahead = Check.state(x);
            Check.due("image", x.image(place), true);
            Check.due("all stays", Check.state(x), ahead);
            String ground = Check.ground(x);
            for (int k = 0; k < NAMES.length; k++) {
                act(x, k);
            }
            x.end(0);
            Check.tell(x, "things 2;set ab;");
            Check.due("restore", x.restore(place), true);
            Check.due("as kept", Check.ground(x), ground);
        }
        Check.reading("32", "each place by itself, the latest image");
        PartSums y = things(1);
        y.put(0, 0, 1);
        y.image(0);
        y.put(0, 0, 2);
        y.image(1);
        y.put(0, 0, 3);
        y.restore(0);
        Check.due("0", y.at(0, 0), 1);
        y.restore(1);
        Check.due("1", y.at(0, 0), 2);
        y.put(0, 0, 4);
        y.image(0);
        y.put(0, 0, 5);
        y.restore(1);
        Check.due("1 still", y.at(0, 0), 2);
        y.restore(0);
        Check.due("0 anew", y.at(0, 0), 4);
        Check.sentence("32", "false: no such one");
        for (int k : new int[] {-1, 2, 3, BIG, SMALL}) {
            Check.refused("image(" + k + ")", x -> x.image(k) ? 1 : -1);
            PartSums fresh = new PartSums();
            fresh.image(k);
            Check.due("nothing is kept", fresh.restore(0) || fresh.restore(1), false);
        }
    }

    private static void restore() {
        Check.sentence("33", "They are as kept in place k");
        PartSums x = Check.busy();
        x.image(1);
        String ground = Check.ground(x);
        Consumer<PartSums> spoil = y -> {
            y.drawn(60, 4);
            y.lay(0, 6);
            y.lay(3, 4);
            y.name(0, 1);
        };
        for (int i = 0; i < 3; i++) {
            spoil.accept(x);
            Check.due("restore", x.restore(1), true);
            Check.due("as kept, as often as one likes", Check.ground(x), ground);
        }
        Check.due("the other one", x.restore(0), true);
        Check.due("without rows", x.at(0, 0), 0);
        Check.reading("33", "as kept, without THINGS");
        PartSums none = new PartSums();
        none.image(0);
        Check.tell(none, "things 8;set a;pair ab;");
        none.put(0, 255, 5);
        Check.due("restore", none.restore(0), true);
        Check.due("nothing", Check.state(none), "things 0 told 0 pairs 0 joined acts 0 bytes 0 fault 0");
        Check.due("no set", none.weight(0), -1);
        Check.reading("33", "as kept, with fewer THINGS");
        PartSums few = things(1);
        few.image(0);
        Check.tell(few, "things 8;set a;set h;pair ab;");
        few.put(0, 255, 5);
        few.restore(0);
        Check.due("one thing", Check.ground(few), "things 1 told 0 pairs 0 joined 0 | 0 0 0 0 0 | 0 0 0 0 0");
        Check.sentence("33", "the tape, what fault() tells, stays");
        PartSums y = Check.busy();
        y.restore(0);
        Check.due("bytes", y.now(4), 20);
        Check.due("the fault", y.fault(), 2);
        Check.sentence("33", "nothing can be undone");
        Check.due("acts", y.now(3), 0);
        Check.due("undo", y.undo(), -1);
        y.put(0, 0, 1);
        Check.due("an act behind it", y.undo(), 0);
    }

    private static void restoreRefused() {
        Check.sentence("33", "false: no such one");
        PartSums both = Check.busy();
        both.image(1);
        both.put(0, 0, 1);
        String ahead = Check.state(both);
        for (int k : new int[] {-1, 2, 3, BIG, SMALL}) {
            Check.refused("restore(" + k + ")", x -> x.restore(k) ? 1 : -1);
            Check.due("restore(" + k + ") with two images", both.restore(k), false);
            Check.due("all stays", Check.state(both), ahead);
        }
        Check.sentence("33", "or nothing is kept there");
        Check.refused("restore(1)", x -> x.restore(1) ? 1 : -1);
        Check.refusedWithoutThings("restore(1)", x -> x.restore(1) ? 1 : -1);
    }

    private static void newText() {
        Check.sentence("Terms", "A new TEXT: ROWS are 0");
        PartSums x = things(8);
        for (int row = 0; row < 4; row++) {
            for (int set = 0; set < 256; set += 51) {
                x.put(row, set, 7);
            }
        }
        Check.tell(x, "things 8;");
        for (int row = 0; row < 4; row++) {
            for (int set = 0; set < 256; set += 51) {
                Check.due("at", x.at(row, set), 0);
            }
        }
        Check.sentence("Terms", "A new TEXT: .. nothing can be undone");
        for (String text : new String[] {"things 3;set a;", "", " \n"}) {
            PartSums y = Check.busy();
            y.end(0);
            Check.tell(y, text);
            Check.due("acts", y.now(3), 0);
            Check.due("undo", y.undo(), -1);
        }
        Check.reading("Terms", "A new TEXT: with fewer THINGS, with none between");
        PartSums z = things(8);
        z.put(2, 255, 5);
        z.put(2, 1, 5);
        z.weigh(128, 5);
        z.join(0, 7, true);
        z.text();
        Check.tell(z, "things 3;");
        Check.due("the ground", Check.ground(z), Check.ground(things(3)));
        Check.tell(z, "things 8;");
        Check.due("sets", z.now(1), 0);
        Check.due("pairs", z.now(2), 0);
        Check.due("rows", z.at(2, 255), 0);
        Check.reading("Terms", "images outlive it");
        PartSums y = Check.busy();
        y.end(0);
        y.text();
        Check.due("restore", y.restore(0), true);
        Check.due("things", y.now(0), 3);
    }

    private static void manyCalls() {
        Check.sentence("What it is", "An object is used for at most 512 calls");
        // Three calls (feed, end, text) tell the things, a fourth lays the row; then four a round.
        PartSums x = things(8);
        Check.due("lay", x.lay(0, 6), 8);
        for (int round = 1; round <= 127; round++) {
            Check.due("allWays in round " + round, x.allWays(0, 1), 41_393);
            Check.due("power in round " + round, x.power(0, 8, 2), 40_320);
            Check.due("drawn in round " + round, x.drawn(60, round) >= 0, true);
            Check.due("undo in round " + round, x.undo(), Math.min(7, 1 + 2 * round));
        }
    }
}
