import java.util.Random;

/** Runs of calls with arguments of all kinds, answered by the class and by the plain model alike. */
public final class RandomRunsTest {
    private final Random random;
    private final PartSums x = new PartSums();
    private final Plain y = new Plain();
    private final int run;
    private int calls;

    private RandomRunsTest(int run) {
        this.run = run;
        this.random = new Random(run);
    }

    public static void main(String[] args) {
        for (int run = 0; run < 400; run++) {
            RandomRunsTest test = new RandomRunsTest(run);
            while (test.calls < 450) {
                test.step();
            }
        }
        for (int run = 0; run < 20_000; run++) {
            new RandomRunsTest(run).texts();
        }
        Check.finish();
    }

    private void texts() {
        for (int i = 0; i < 4; i++) {
            tell(TextMaker.make(random));
        }
        compareState();
    }

    private void due(String call, long got, long want) {
        calls++;
        Check.due("run " + run + ", call " + calls + ": " + call, got, want);
    }

    private void tell(String text) {
        due("end(0)", x.end(0) ? 1 : 0, y.end(0) ? 1 : 0);
        for (int from = 0; from < text.length(); from += 20) {
            int[] five = new int[5];
            for (int i = 0; i < 20 && from + i < text.length(); i++) {
                five[i / 4] |= text.charAt(from + i) << (24 - 8 * (i % 4));
            }
            due("feed", x.feed(five[0], five[1], five[2], five[3], five[4]), y.feed(five));
        }
        due("end", x.end(text.length()) ? 1 : 0, y.end(text.length()) ? 1 : 0);
        due("text() of " + text, x.text(), y.text());
        due("fault() of " + text, x.fault(), y.fault());
    }

    private void compareState() {
        for (int what = -1; what <= 5; what++) {
            due("now(" + what + ")", x.now(what), y.now(what));
        }
        for (int thing = -1; thing <= 8; thing++) {
            due("joined(" + thing + ")", x.joined(thing), y.joined(thing));
        }
        for (int set = -1; set <= 256; set++) {
            due("weight(" + set + ")", x.weight(set), y.weight(set));
            for (int row = -1; row <= 4; row++) {
                due("at(" + row + ", " + set + ")", x.at(row, set), y.at(row, set));
            }
        }
        calls -= 7 + 10 + 258 * 6;
    }

    private int set() {
        int sets = 1 << Math.max(0, y.now(0));
        switch (random.nextInt(12)) {
            case 0: return random.nextInt(sets + 3) - 1;
            case 1: return sets;
            case 2: return 0;
            case 3: case 4: return sets - 1;
            case 5: return random.nextInt(10) == 0 ? far() : sets - 1;
            default: return random.nextInt(sets);
        }
    }

    private int thing() {
        int things = Math.max(1, y.now(0));
        return random.nextInt(15) == 0 ? pick(-1, things, 31, 32, far()) : random.nextInt(things);
    }

    private int row() {
        return random.nextInt(25) == 0 ? pick(-1, 4, far()) : random.nextInt(4);
    }

    private int pick(int... of) {
        return of[random.nextInt(of.length)];
    }

    private int upTo(int most) {
        return random.nextInt(12) == 0 ? pick(-1, most + 1, 0, most, far()) : random.nextInt(most + 1);
    }

    private int far() {
        return pick(Integer.MIN_VALUE, Integer.MAX_VALUE, random.nextInt());
    }

    private void step() {
        int kind = random.nextInt(100);
        if (kind < 2 || y.now(0) == 0 && kind < 40) {
            tell(random.nextInt(3) == 0 ? TextMaker.make(random) : TextMaker.makeRight(random));
        } else if (kind < 45) {
            reckon();
        } else if (kind < 72) {
            ask();
        } else {
            change();
        }
        if (random.nextInt(6) == 0) {
            compareState();
        }
    }

    private void reckon() {
        int f = row();
        int g = row();
        int to = row();
        boolean over = random.nextBoolean();
        switch (random.nextInt(10)) {
            case 0: case 1: {
                int what = upTo(7);
                due("lay " + f + " " + what, x.lay(f, what), y.lay(f, what));
                break;
            }
            case 2:
                due("sum", x.sum(f, over), y.sum(f, over));
                break;
            case 3:
                due("back", x.back(f, over), y.back(f, over));
                break;
            case 4: case 5: {
                int how = upTo(6);
                due("times " + how, x.times(f, g, how, to), y.times(f, g, how, to));
                break;
            }
            case 6: {
                int k = random.nextBoolean() ? upTo(99) : upTo(4);
                due("power " + k, x.power(f, k, to), y.power(f, k, to));
                break;
            }
            case 7:
                prepare(f, 1 + random.nextInt(1_000_002));
                due("inverse", x.inverse(f, to), y.inverse(f, to));
                break;
            case 8:
                prepare(f, 0);
                due("allWays", x.allWays(f, to), y.allWays(f, to));
                break;
            default:
                prepare(f, 1);
                due("roots", x.roots(f, to), y.roots(f, to));
        }
    }

    private void prepare(int row, int v) {
        if (random.nextInt(3) != 0) {
            due("put", x.put(row, 0, v), y.put(row, 0, v));
        }
    }

    private void ask() {
        int set = set();
        int k = upTo(8);
        switch (random.nextInt(8)) {
            case 0:
                due("covers " + set + " " + k, x.covers(set, k), y.covers(set, k));
                break;
            case 1:
                due("partings " + set + " " + k, x.partings(set, k), y.partings(set, k));
                break;
            case 2:
                due("cheapest " + set, x.cheapest(set), y.cheapest(set));
                break;
            case 3:
                due("part " + set + " " + k, Check.part(x, set, k), y.part(set, k));
                break;
            case 4:
                due("colours " + set, x.colours(set), y.colours(set));
                break;
            case 5: {
                int thing = thing();
                due("colour " + set + " " + thing, x.colour(set, thing), y.colour(set, thing));
                break;
            }
            case 6: {
                int many = upTo(99);
                due("colourings " + set + " " + many, x.colourings(set, many), y.colourings(set, many));
                break;
            }
            default:
                due("hangs " + set, x.hangs(set), y.hangs(set));
        }
    }

    private void change() {
        int a = thing();
        int b = thing();
        int set = set();
        int k = random.nextInt(10) == 0 ? pick(-1, 2, far()) : random.nextInt(2);
        switch (random.nextInt(12)) {
            case 0: case 1: {
                int w = random.nextInt(3) == 0 ? 0 : random.nextBoolean() ? upTo(5) : upTo(999);
                due("weigh " + set + " " + w, x.weigh(set, w), y.weigh(set, w));
                break;
            }
            case 2: case 3: {
                boolean is = random.nextInt(3) != 0;
                due("join " + a + " " + b, x.join(a, b, is), y.join(a, b, is));
                break;
            }
            case 4:
                due("name " + a + " " + b, x.name(a, b), y.name(a, b));
                break;
            case 5: {
                int n = random.nextInt(8) == 0 ? pick(0, 61, -5, far()) : 1 + random.nextInt(60);
                int seed = random.nextInt();
                due("drawn " + n + " " + seed, x.drawn(n, seed), y.drawn(n, seed));
                break;
            }
            case 6: {
                int row = row();
                int v = random.nextBoolean() ? random.nextInt() : random.nextInt(3);
                due("put", x.put(row, set, v), y.put(row, set, v));
                break;
            }
            case 7: case 8: case 9:
                due("undo", x.undo(), y.undo());
                break;
            case 10:
                due("image", x.image(k) ? 1 : 0, y.image(k) ? 1 : 0);
                break;
            default:
                due("restore", x.restore(k) ? 1 : 0, y.restore(k) ? 1 : 0);
        }
    }
}
