/** For each promise ordinary inputs, the edges that the document names, and wrong inputs; answers by hand. */
public final class PromiseTest {
    /** Three things in a line, a - b - c, and five sets told. */
    private static final String LINE = "things 3;set a 2;set b 3;set c 4;set ab 4;set bc 9;pair ab;pair cb;";
    private static final int BIG = Integer.MAX_VALUE;
    private static final int SMALL = Integer.MIN_VALUE;

    private PromiseTest() {
    }

    private static void due(String what, long got, long want) {
        Check.due(what, got, want);
    }

    private static void due(String what, boolean got, boolean want) {
        Check.due(what, got, want);
    }

    private static void row(String what, PartSums x, int row, long... want) {
        for (int set = 0; set < want.length; set++) {
            due(what + ": at(" + row + ", " + set + ")", x.at(row, set), want[set]);
        }
    }

    private static void fill(PartSums x, int row, int... numbers) {
        Check.fill(x, row, numbers);
    }

    public static void main(String[] args) {
        promise1();
        promise2();
        promise3();
        promise4();
        promise5();
        promise6();
        promise7();
        promise8();
        promise9();
        promise10();
        promise11();
        promise12();
        promise13();
        promise14();
        promise15();
        promise16();
        promise17();
        promise18();
        promise19();
        promise20();
        promise21();
        promise22();
        promise23();
        promise24();
        promise25();
        promise26();
        promise27();
        promise28();
        promise29();
        promise30();
        promise31();
        promise32();
        promise33();
        Check.finish();
    }

    private static void promise1() {
        PartSums x = new PartSums();
        for (int what = 0; what <= 4; what++) {
            due("1: now(" + what + ")", x.now(what), 0);
        }
        due("1: no sets", x.weight(0), -1);
        due("1: no things", x.joined(0), -1);
        due("1: no rows", x.at(0, 0), -1);
        due("1: no images", x.restore(0) || x.restore(1), false);
    }

    private static void promise2() {
        PartSums x = new PartSums();
        due("2: first", x.feed(0x7468696e, 0x67732034, 0x3b736574, 0x20616220, 0x37373b20), 20);
        due("2: the bytes are 'things 4;set ab 77; '", x.text(), 2);
        due("2: things", x.now(0), 4);
        due("2: weight", x.weight(3), 77);
        for (int i = 1; i <= 27; i++) {
            due("2: feed " + i, x.feed(-1, -1, -1, -1, -1), 20 * i);
        }
        due("2: full", x.feed(0, 0, 0, 0, 0), -1);
        due("2: none came", x.now(4), 540);
        x.end(521);
        due("2: 541 would be too many", x.feed(0, 0, 0, 0, 0), -1);
        due("2: none came", x.now(4), 521);
        x.end(520);
        due("2: 540 are not", x.feed(0, 0, 0, 0, 0), 540);
    }

    private static void promise3() {
        PartSums x = new PartSums();
        due("3: nothing of nothing", x.end(0), true);
        due("3: too many", x.end(1), false);
        x.feed(1, 2, 3, 4, 5);
        due("3: all", x.end(20), true);
        due("3: too many", x.end(21), false);
        due("3: below 0", x.end(-1), false);
        due("3: far below", x.end(SMALL), false);
        due("3: far too many", x.end(BIG), false);
        due("3: all stays", x.now(4), 20);
        due("3: some", x.end(7), true);
        due("3: these alone", x.now(4), 7);
        due("3: what went is gone", x.end(8), false);
        Check.tape(x, "");
        Check.tape(x, "things 3;things");
        x.end(9);
        due("3: the first bytes", x.text(), 1);
    }

    private static void promise4() {
        PartSums x = new PartSums();
        due("4: empty", x.text(), 0);
        due("4: lines", Check.tell(x, LINE), 8);
        due("4: things", x.now(0), 3);
        due("4: sets", x.now(1), 5);
        due("4: pairs", x.now(2), 2);
        due("4: tape", x.now(4), 0);
        x.put(2, 1, 5);
        x.weigh(7, 5);
        x.image(0);
        PartSums y = Check.with("things 8;");
        for (int row = 0; row < 4; row++) {
            y.put(row, 0, 1);
            y.put(row, 255, 1);
        }
        Check.tell(y, "things 8;");
        for (int row = 0; row < 4; row++) {
            due("4: rows are 0", y.at(row, 0) + y.at(row, 255), 0);
        }
        due("4: a fault", Check.tell(x, "things 4;set e;"), -14);
        due("4: tape with a fault", x.now(4), 0);
        due("4: things stay", x.now(0), 3);
        due("4: rows stay", x.at(2, 1), 5);
        due("4: weights stay", x.weight(7), 5);
        due("4: acts stay", x.now(3), 2);
        due("4: anew", Check.tell(x, "\nthings\n4\n;\nset dcba 999 ; pair da;"), 3);
        due("4: rows are 0", x.at(2, 1), 0);
        due("4: no acts", x.now(3), 0);
        due("4: weights anew", x.weight(7), 0);
        due("4: letters in any order", x.weight(15), 999);
        due("4: joined", x.joined(3), 1);
        due("4: blanks alone", Check.tell(x, " \n "), 0);
        due("4: no things", x.now(0), 0);
        due("4: no sets", x.weight(0), -1);
        due("4: images stay", x.restore(0), true);
        due("4: as kept", x.at(2, 1), 5);
    }

    private static void promise5() {
        PartSums x = new PartSums();
        due("5: ahead of any", x.fault(), 0);
        Check.tell(x, "things 9;");
        due("5: 2", x.fault(), 2);
        Check.tape(x, "things 2;");
        due("5: until the next text()", x.fault(), 2);
        x.text();
        due("5: without one", x.fault(), 0);
        Check.tell(x, "x");
        x.image(0);
        x.restore(0);
        due("5: 1", x.fault(), 1);
        Check.tell(x, "things 1;pair a;");
        due("5: 3", x.fault(), 3);
        Check.tell(x, "things 1;set a;set a;");
        due("5: 4", x.fault(), 4);
        x.text();
        due("5: empty", x.fault(), 0);
    }

    private static void promise6() {
        PartSums x = Check.with(LINE);
        due("6: things", x.now(0), 3);
        due("6: sets", x.now(1), 5);
        due("6: pairs", x.now(2), 2);
        due("6: acts", x.now(3), 0);
        due("6: bytes", x.now(4), 0);
        x.weigh(0, 1);
        x.join(0, 2, true);
        x.feed(0, 0, 0, 0, 0);
        due("6: sets, the empty one too", x.now(1), 6);
        due("6: pairs", x.now(2), 3);
        due("6: acts", x.now(3), 2);
        due("6: bytes", x.now(4), 20);
        due("6: another", x.now(5), -1);
        due("6: another", x.now(-1), -1);
        due("6: another", x.now(SMALL), -1);
        due("6: another", x.now(BIG), -1);
    }

    private static void promise7() {
        PartSums x = Check.with("things 3;set a;set cb 999;");
        due("7: 1 without", x.weight(1), 1);
        due("7: told", x.weight(6), 999);
        due("7: not told", x.weight(7), 0);
        due("7: the empty one", x.weight(0), 0);
        due("7: none", x.weight(8), -1);
        due("7: none", x.weight(-1), -1);
        due("7: none", x.weight(SMALL), -1);
        due("7: none", x.weight(BIG), -1);
    }

    private static void promise8() {
        PartSums x = Check.with(LINE);
        due("8: a", x.joined(0), 2);
        due("8: b", x.joined(1), 5);
        due("8: c", x.joined(2), 2);
        due("8: none", x.joined(3), -1);
        due("8: none", x.joined(-1), -1);
        due("8: none", x.joined(BIG), -1);
        PartSums y = Check.with("things 8;pair ha;");
        due("8: h", y.joined(7), 1);
        due("8: a", y.joined(0), 128);
        due("8: d", y.joined(3), 0);
    }

    private static void promise9() {
        PartSums x = Check.with(LINE);
        row("9: at first", x, 3, 0, 0, 0, 0, 0, 0, 0, 0);
        x.put(3, 7, 12);
        due("9: put", x.at(3, 7), 12);
        due("9: another row", x.at(2, 7), 0);
        due("9: of one thing", Check.with("things 1;").at(3, 1), 0);
        due("9: none", x.at(4, 0), -1);
        due("9: none", x.at(-1, 0), -1);
        due("9: none", x.at(0, 8), -1);
        due("9: none", x.at(0, -1), -1);
        due("9: none", x.at(BIG, SMALL), -1);
    }

    private static void promise10() {
        PartSums x = Check.with(LINE);
        due("10: as it is", x.put(0, 0, 1_000_002), 1_000_002);
        due("10: modulo", x.put(0, 0, 1_000_003), 0);
        due("10: modulo", x.put(0, 1, BIG), 477_206);
        due("10: below 0", x.put(0, 2, -1), 1_000_002);
        due("10: below 0", x.put(0, 3, SMALL), 522_796);
        due("10: below 0", x.put(0, 4, -1_000_003), 0);
        row("10", x, 0, 0, 477_206, 1_000_002, 522_796, 0, 0, 0, 0);
        due("10: none", x.put(4, 0, 1), -1);
        due("10: none", x.put(-1, 0, 1), -1);
        due("10: none", x.put(0, 8, 1), -1);
        due("10: none", x.put(0, -1, 1), -1);
        due("10: acts", x.now(3), 6);
    }

    private static void promise11() {
        PartSums x = Check.with(LINE);
        x.weigh(0, 6);
        due("11: 0", x.lay(0, 0), 0);
        row("11: weights", x, 0, 6, 2, 3, 4, 4, 0, 9, 0);
        due("11: 1", x.lay(0, 1), 0);
        row("11: told", x, 0, 1, 1, 1, 1, 1, 0, 1, 0);
        due("11: 2", x.lay(0, 2), 0);
        row("11: without a pair", x, 0, 1, 1, 1, 0, 1, 1, 0, 0);
        due("11: 3", x.lay(0, 3), 0);
        row("11: each two joined", x, 0, 1, 1, 1, 1, 1, 0, 1, 0);
        due("11: 4", x.lay(0, 4), 4);
        row("11: 2 to the pairs", x, 0, 1, 1, 1, 2, 1, 1, 2, 4);
        due("11: 5", x.lay(0, 5), 1);
        row("11: hang together", x, 0, 0, 1, 1, 1, 1, 0, 1, 1);
        due("11: 6", x.lay(0, 6), 3);
        row("11: things", x, 0, 0, 1, 1, 2, 1, 2, 2, 3);
        due("11: 7", x.lay(0, 7), 0);
        row("11: power 0", x, 0, 1, 0, 0, 0, 0, 0, 0, 0);
        due("11: none", x.lay(0, 8), -1);
        due("11: none", x.lay(0, -1), -1);
        due("11: none", x.lay(4, 0), -1);
        due("11: none", x.lay(-1, 0), -1);
        due("11: without things", new PartSums().lay(0, 7), -1);
        PartSums y = Check.with(complete(8));
        due("11: 2 to 28 modulo", y.lay(1, 4), 268_435_456 % 1_000_003);
        due("11: each two joined", y.lay(1, 3), 1);
        PartSums z = Check.with("things 8;pair ah;pair hb;pair bg;pair gc;pair cf;pair fd;pair de;");
        due("11: a long line hangs together", z.lay(1, 5), 1);
        due("11: not without its middle", z.at(1, 255 - 64), 0);
    }

    private static String complete(int things) {
        return Check.complete(things);
    }

    private static void promise12() {
        PartSums x = Check.with(LINE);
        fill(x, 1, 1, 2, 3, 4, 5, 6, 7, 1_000_002);
        due("12: parts", x.sum(1, false), 27);
        row("12: parts", x, 1, 1, 3, 4, 10, 6, 14, 16, 27);
        fill(x, 1, 1, 2, 3, 4, 5, 6, 7, 1_000_002);
        due("12: holders", x.sum(1, true), 27);
        row("12: holders", x, 1, 27, 11, 13, 3, 17, 5, 6, 1_000_002);
        due("12: none", x.sum(4, true), -1);
        due("12: none", x.sum(-1, false), -1);
        due("12: without things", new PartSums().sum(0, false), -1);
    }

    private static void promise13() {
        PartSums x = Check.with(LINE);
        fill(x, 1, 1, 3, 4, 10, 6, 14, 16, 27);
        due("13: parts", x.back(1, false), 1_000_002);
        row("13: parts", x, 1, 1, 2, 3, 4, 5, 6, 7, 1_000_002);
        fill(x, 1, 27, 11, 13, 3, 17, 5, 6, 1_000_002);
        due("13: holders", x.back(1, true), 1);
        row("13: holders", x, 1, 1, 2, 3, 4, 5, 6, 7, 1_000_002);
        due("13: none", x.back(4, true), -1);
        due("13: none", x.back(-1, false), -1);
        due("13: without things", new PartSums().back(0, true), -1);
    }

    private static void promise14() {
        PartSums x = Check.with("things 2;");
        fill(x, 0, 1, 2, 3, 4);
        fill(x, 1, 5, 6, 7, 8);
        due("14: apart", x.times(0, 1, 0, 2), 60);
        row("14: apart", x, 2, 5, 16, 22, 60);
        due("14: together", x.times(0, 1, 1, 2), 260 - 5 - 28 - 43);
        row("14: together", x, 2, 5, 28, 43, 184);
        due("14: common", x.times(0, 1, 2, 2), 32);
        row("14: common", x, 2, 103, 52, 73, 32);
        due("14: unlike", x.times(0, 1, 3, 2), 60);
        row("14: unlike", x, 2, 70, 68, 62, 60);
        due("14: each by each", x.times(0, 1, 4, 2), 32);
        row("14: each by each", x, 2, 5, 12, 21, 32);
        due("14: added", x.times(0, 1, 5, 2), 12);
        row("14: added", x, 2, 6, 8, 10, 12);
        due("14: less", x.times(0, 1, 6, 2), 999_999);
        due("14: less", x.times(1, 0, 6, 2), 4);
        for (int how = 0; how <= 6; how++) {
            long[] same = {1, 4, 6, 20};
            fill(x, 3, 1, 2, 3, 4);
            x.times(3, 3, how, 2);
            x.times(3, 3, how, 3);
            for (int set = 0; set < 4; set++) {
                due("14: into itself, " + how, x.at(3, set), x.at(2, set));
                due("14: itself apart", how != 0 || x.at(3, set) == same[set], true);
            }
        }
        fill(x, 3, 1_000_002, 1_000_002, 1_000_002, 1_000_002);
        due("14: large ones", x.times(3, 3, 3, 3), 4);
        due("14: none", x.times(0, 1, 7, 2), -1);
        due("14: none", x.times(0, 1, -1, 2), -1);
        due("14: none", x.times(4, 1, 0, 2), -1);
        due("14: none", x.times(0, -1, 0, 2), -1);
        due("14: none", x.times(0, 1, 0, 4), -1);
        due("14: without things", new PartSums().times(0, 0, 5, 0), -1);
    }

    private static void promise15() {
        PartSums x = Check.with("things 2;");
        fill(x, 0, 1, 2, 3, 4);
        due("15: 0", x.power(0, 0, 1), 0);
        row("15: 0", x, 1, 1, 0, 0, 0);
        due("15: 1", x.power(0, 1, 1), 4);
        row("15: 1", x, 1, 1, 2, 3, 4);
        due("15: 2", x.power(0, 2, 1), 20);
        row("15: 2", x, 1, 1, 4, 6, 20);
        due("15: 3", x.power(0, 3, 1), 48);
        due("15: 99", x.power(0, 99, 1), 99 * 4 + 99 * 98 * 6);
        x.put(0, 0, 0);
        due("15: 2 without the empty set", x.power(0, 2, 1), 12);
        due("15: 3 of two things", x.power(0, 3, 1), 0);
        due("15: 0 of it", x.power(0, 0, 1), 0);
        due("15: is 1", x.at(1, 0), 1);
        due("15: into itself", x.power(0, 2, 0), 12);
        row("15: into itself", x, 0, 0, 0, 0, 12);
        due("15: none", x.power(0, 100, 1), -1);
        due("15: none", x.power(0, -1, 1), -1);
        due("15: none", x.power(4, 1, 1), -1);
        due("15: none", x.power(0, 1, -1), -1);
        due("15: without things", new PartSums().power(0, 0, 0), -1);
        PartSums y = Check.with("things 8;");
        y.lay(0, 6);
        y.put(0, 0, 7);
        y.power(0, 60, 1);
        y.power(0, 39, 2);
        due("15: 60 and 39", y.times(1, 2, 0, 3), y.power(0, 99, 0));
    }

    private static void promise16() {
        PartSums x = Check.with("things 2;");
        fill(x, 0, 1, 2, 3, 4);
        due("16: of 1", x.inverse(0, 1), 8);
        row("16: of 1", x, 1, 1, 1_000_001, 1_000_000, 8);
        x.put(0, 0, 2);
        x.inverse(0, 1);
        row("16: of 2", x, 1, 500_002, 500_001);
        due("16: both", x.times(0, 1, 0, 2), 0);
        row("16: both", x, 2, 1, 0, 0, 0);
        due("16: into itself", x.inverse(0, 0), x.at(1, 3));
        PartSums y = Check.with("things 8;");
        y.lay(0, 6);
        y.put(0, 0, 12_345);
        y.inverse(0, 1);
        y.times(0, 1, 0, 2);
        due("16: of eight things", y.at(2, 0), 1);
        for (int set = 1; set < 256; set++) {
            due("16: of eight things", y.at(2, set), 0);
        }
        x.put(0, 0, 0);
        int acts = x.now(3);
        due("16: 0", x.inverse(0, 1), -1);
        due("16: no act", x.now(3), acts);
        due("16: none", x.inverse(4, 1), -1);
        due("16: none", x.inverse(1, 4), -1);
        due("16: none", x.inverse(-1, -1), -1);
        due("16: without things", new PartSums().inverse(0, 0), -1);
    }

    private static void promise17() {
        PartSums x = Check.with("things 3;");
        fill(x, 0, 0, 1, 2, 3, 4, 5, 6, 7);
        due("17", x.allWays(0, 1), 7 + 6 + 2 * 5 + 4 * 3 + 8);
        row("17", x, 1, 1, 1, 2, 5, 4, 9, 14, 43);
        due("17: into itself", x.allWays(0, 0), 43);
        due("17: not 0", x.allWays(0, 1), -1);
        due("17: none", x.allWays(4, 1), -1);
        due("17: none", x.allWays(2, 4), -1);
        due("17: none", x.allWays(-1, 1), -1);
        due("17: without things", new PartSums().allWays(0, 0), -1);
        PartSums y = Check.with("things 8;");
        fillAll(y, 0, 1);
        y.put(0, 0, 0);
        due("17: all ways to part eight", y.allWays(0, 1), 4140);
    }

    private static void fillAll(PartSums x, int row, int v) {
        Check.fillAll(x, row, v);
    }

    private static void promise18() {
        PartSums x = Check.with("things 3;");
        fill(x, 0, 1, 1, 2, 5, 4, 9, 14, 43);
        due("18", x.roots(0, 1), 7);
        row("18", x, 1, 0, 1, 2, 3, 4, 5, 6, 7);
        due("18: into itself", x.roots(0, 0), 7);
        due("18: not 1", x.roots(0, 1), -1);
        x.put(0, 0, 2);
        due("18: not 1", x.roots(0, 1), -1);
        x.put(0, 0, 1);
        due("18: none", x.roots(4, 1), -1);
        due("18: none", x.roots(0, 4), -1);
        due("18: none", x.roots(0, -1), -1);
        due("18: without things", new PartSums().roots(0, 0), -1);
        fill(x, 0, 1, 1, 1, 0, 1, 0, 0, 0);
        due("18: below 0", x.roots(0, 1), 2);
        due("18: below 0", x.at(1, 3), 1_000_002);
    }

    private static void promise19() {
        PartSums x = Check.with(LINE);
        due("19: none of none", x.covers(0, 0), 1);
        due("19: none of some", x.covers(1, 0), 0);
        due("19: ab of one", x.covers(3, 1), 1);
        due("19: ab of two", x.covers(3, 2), 7);
        due("19: abc of two", x.covers(7, 2), 6);
        due("19: ac of two", x.covers(5, 2), 2);
        x.weigh(0, 1);
        due("19: with the empty one", x.covers(3, 1), 1);
        due("19: with the empty one", x.covers(3, 2), 9);
        due("19: the empty one", x.covers(0, 8), 1);
        due("19: none", x.covers(0, 9), -1);
        due("19: none", x.covers(0, -1), -1);
        due("19: none", x.covers(8, 1), -1);
        due("19: none", x.covers(-1, 1), -1);
        due("19: without things", new PartSums().covers(0, 0), -1);
        PartSums y = Check.with("things 3;set a;set b;set c;set ab;set ac;set bc;set abc;");
        y.weigh(0, 1);
        due("19: modulo", y.covers(7, 8), 255L * 255 * 255 % 1_000_003);
    }

    private static void promise20() {
        PartSums x = Check.with(LINE);
        due("20: none of none", x.partings(0, 0), 1);
        due("20: none of some", x.partings(4, 0), 0);
        due("20: abc as one", x.partings(7, 1), 0);
        due("20: abc as two", x.partings(7, 2), 2);
        due("20: abc as three", x.partings(7, 3), 1);
        due("20: abc as four", x.partings(7, 4), 0);
        x.weigh(0, 1);
        due("20: not the empty one", x.partings(7, 4), 0);
        due("20: not the empty one", x.partings(0, 1), 0);
        due("20: none", x.partings(7, 9), -1);
        due("20: none", x.partings(7, -1), -1);
        due("20: none", x.partings(8, 1), -1);
        due("20: none", x.partings(-1, 1), -1);
        due("20: without things", new PartSums().partings(0, 0), -1);
        PartSums y = Check.with("things 8;");
        for (int set = 1; set < 256; set++) {
            y.weigh(set, 1);
        }
        int[] want = {0, 1, 127, 966, 1701, 1050, 266, 28, 1};
        for (int k = 0; k <= 8; k++) {
            due("20: eight into " + k, y.partings(255, k), want[k]);
        }
    }

    private static void promise21() {
        PartSums x = Check.with(LINE);
        due("21: the empty one", x.cheapest(0), 0);
        due("21: one of one", x.cheapest(2), 3);
        due("21: ab", x.cheapest(3), 4);
        due("21: ac", x.cheapest(5), 6);
        due("21: bc", x.cheapest(6), 7);
        due("21: abc", x.cheapest(7), 8);
        x.weigh(0, 1);
        due("21: not the empty one", x.cheapest(0), 0);
        x.weigh(4, 0);
        due("21: abc without c", x.cheapest(7), 11);
        due("21: there is none", x.cheapest(4), -1);
        due("21: none", x.cheapest(8), -1);
        due("21: none", x.cheapest(-1), -1);
        due("21: without things", new PartSums().cheapest(0), -1);
        PartSums y = Check.with("things 8;set a 999;set b 999;set c 999;set d 999;set e 999;set f 999;set g 999;"
            + "set h 999;");
        due("21: the dearest", y.cheapest(255), 7992);
    }

    private static void promise22() {
        PartSums x = Check.with(LINE);
        due("22: ab, c", Check.part(x, 7, 0), 3);
        due("22: ab, c", Check.part(x, 7, 1), 4);
        due("22: no more", Check.part(x, 7, 2), -2);
        due("22: below 0", Check.part(x, 7, -1), -2);
        due("22: far", Check.part(x, 7, BIG), -2);
        due("22: far below", Check.part(x, 7, SMALL), -2);
        due("22: of the empty one", Check.part(x, 0, 0), -2);
        due("22: no such set", Check.part(x, 8, 0), -2);
        due("22: no such set", Check.part(x, -1, 0), -2);
        x.weigh(3, 5);
        due("22: the least of two cheapest", Check.part(x, 7, 0), 1);
        due("22: the least of two cheapest", Check.part(x, 7, 1), 2);
        due("22: the least of two cheapest", Check.part(x, 7, 2), 4);
        x.weigh(4, 0);
        due("22: no parting", Check.part(x, 4, 0), -2);
        due("22: without things", Check.part(new PartSums(), 0, 0), -2);
        PartSums z = Check.with("things 3;set b;set ac;");
        due("22: with the least thing", Check.part(z, 7, 0), 5);
        due("22: with the least thing", Check.part(z, 7, 1), 2);
        PartSums y = Check.with("things 8;set a;set b;set c;set d;set e;set f;set g;set h;");
        due("22: the eighth", Check.part(y, 255, 7), 128);
        due("22: no ninth", Check.part(y, 255, 8), -2);
        due("22: no ninth", Check.part(y, 255, 9), -2);
    }

    private static void promise23() {
        PartSums x = Check.with(LINE);
        due("23: the empty one", x.colours(0), 0);
        due("23: one", x.colours(4), 1);
        due("23: apart", x.colours(5), 1);
        due("23: joined", x.colours(3), 2);
        due("23: a line", x.colours(7), 2);
        x.join(0, 2, true);
        due("23: a ring of three", x.colours(7), 3);
        due("23: none", x.colours(8), -1);
        due("23: none", x.colours(-1), -1);
        due("23: without things", new PartSums().colours(0), -1);
        due("23: eight", Check.with(complete(8)).colours(255), 8);
        due("23: a ring of five", Check.with("things 5;pair ab;pair bc;pair cd;pair de;pair ea;").colours(31), 3);
    }

    private static void promise24() {
        PartSums x = Check.with("things 6;pair ad;pair be;pair cf;pair ae;pair af;pair bd;pair bf;pair cd;pair ce;");
        int[] want = {0, 0, 0, 1, 1, 1};
        for (int thing = 0; thing < 6; thing++) {
            due("24: two sides", x.colour(63, thing), want[thing]);
        }
        due("24: not of it", x.colour(62, 0), -1);
        due("24: d alone", x.colour(8, 3), 0);
        due("24: none", x.colour(64, 0), -1);
        due("24: none", x.colour(-1, 0), -1);
        due("24: none", x.colour(63, 6), -1);
        due("24: none", x.colour(63, -1), -1);
        due("24: none", x.colour(63, 32), -1);
        due("24: without things", new PartSums().colour(0, 0), -1);
        // The greedy way (b like a) would need a third colour for the line a - c - d - b.
        PartSums y = Check.with("things 4;pair ac;pair cd;pair db;");
        int[] line = {0, 1, 1, 0};
        for (int thing = 0; thing < 4; thing++) {
            due("24: not greedy", y.colour(15, thing), line[thing]);
        }
        PartSums z = Check.with(complete(8));
        for (int thing = 0; thing < 8; thing++) {
            due("24: eight", z.colour(255, thing), thing);
        }
    }

    private static void promise25() {
        PartSums x = Check.with(LINE);
        due("25: the empty one", x.colourings(0, 0), 1);
        due("25: with none", x.colourings(1, 0), 0);
        due("25: a line with one", x.colourings(7, 1), 0);
        due("25: a line with two", x.colourings(7, 2), 2);
        due("25: a line with ten", x.colourings(7, 10), 810);
        due("25: none", x.colourings(7, 100), -1);
        due("25: none", x.colourings(7, -1), -1);
        due("25: none", x.colourings(8, 1), -1);
        due("25: none", x.colourings(-1, 1), -1);
        due("25: without things", new PartSums().colourings(0, 0), -1);
        due("25: not modulo", Check.with("things 8;").colourings(255, 99), 9_227_446_944_279_201L);
        due("25: complete", Check.with(complete(8)).colourings(255, 99), 99L * 98 * 97 * 96 * 95 * 94 * 93 * 92);
        due("25: complete", Check.with(complete(8)).colourings(255, 7), 0);
    }

    private static void promise26() {
        PartSums x = Check.with(LINE);
        due("26: the empty one", x.hangs(0), 0);
        due("26: one", x.hangs(2), 1);
        due("26: joined", x.hangs(3), 1);
        due("26: apart", x.hangs(5), 0);
        due("26: a line", x.hangs(7), 1);
        x.join(0, 2, true);
        due("26: a ring of three", x.hangs(7), 4);
        due("26: none", x.hangs(8), -1);
        due("26: none", x.hangs(-1), -1);
        due("26: without things", new PartSums().hangs(0), -1);
        PartSums y = Check.with(complete(8));
        int[] want = {0, 1, 1, 4, 38, 728, 26_704, 1_866_256, 251_548_592};
        for (int n = 0; n <= 8; n++) {
            due("26: not modulo, " + n, y.hangs((1 << n) - 1), want[n]);
        }
    }

    private static void promise27() {
        PartSums x = Check.with(LINE);
        due("27: had", x.weigh(1, 999), 2);
        due("27: has", x.weight(1), 999);
        due("27: was not told", x.weigh(7, 1), 0);
        due("27: told", x.now(1), 6);
        due("27: told no more", x.weigh(7, 0), 1);
        due("27: told", x.now(1), 5);
        due("27: the empty one", x.weigh(0, 5), 0);
        due("27: the empty one", x.weight(0), 5);
        int acts = x.now(3);
        due("27: it is so", x.weigh(1, 999), -1);
        due("27: it is so", x.weigh(7, 0), -1);
        due("27: none", x.weigh(1, 1000), -1);
        due("27: none", x.weigh(1, -1), -1);
        due("27: none", x.weigh(8, 1), -1);
        due("27: none", x.weigh(-1, 1), -1);
        due("27: no acts", x.now(3), acts);
        due("27: without things", new PartSums().weigh(0, 1), -1);
    }

    private static void promise28() {
        PartSums x = Check.with(LINE);
        due("28: joined", x.join(2, 0, true), 3);
        due("28: both ways", x.joined(0), 6);
        due("28: both ways", x.joined(2), 3);
        due("28: parted", x.join(0, 1, false), 2);
        due("28: both ways", x.joined(0), 4);
        due("28: both ways", x.joined(1), 4);
        due("28: it is so", x.join(1, 0, false), -1);
        due("28: it is so", x.join(0, 2, true), -1);
        due("28: one alone", x.join(1, 1, true), -1);
        due("28: one alone", x.join(1, 1, false), -1);
        due("28: none", x.join(0, 3, true), -1);
        due("28: none", x.join(3, 0, false), -1);
        due("28: none", x.join(-1, 0, true), -1);
        due("28: none", x.join(0, -1, false), -1);
        due("28: acts", x.now(3), 2);
        due("28: without things", new PartSums().join(0, 1, true), -1);
    }

    private static void promise29() {
        PartSums x = Check.with(LINE);
        fill(x, 0, 10, 11, 12, 13, 14, 15, 16, 17);
        fill(x, 3, 30, 31, 32, 33, 34, 35, 36, 37);
        due("29: just one", x.name(1, 2), 3);
        int[] weights = {0, 2, 4, 0, 3, 4, 9, 0};
        for (int set = 0; set < 8; set++) {
            due("29: weight " + set, x.weight(set), weights[set]);
        }
        row("29: rows", x, 0, 10, 11, 14, 15, 12, 13, 16, 17);
        row("29: rows", x, 3, 30, 31, 34, 35, 32, 33, 36, 37);
        due("29: a", x.joined(0), 4);
        due("29: b", x.joined(1), 4);
        due("29: c", x.joined(2), 3);
        due("29: one alone", x.name(1, 1), -1);
        due("29: none", x.name(0, 3), -1);
        due("29: none", x.name(3, 0), -1);
        due("29: none", x.name(-1, 0), -1);
        due("29: none", x.name(0, BIG), -1);
        due("29: without things", new PartSums().name(0, 1), -1);
        PartSums y = Check.with("things 8;set a;set ab;set bh;set ah 5;pair ab;pair bc;");
        due("29: just one", y.name(0, 7), 3);
        due("29: both", y.weight(129), 5);
        due("29: h", y.joined(7), 2);
        due("29: b", y.joined(1), 132);
    }

    private static void promise30() {
        PartSums x = new PartSums();
        due("30: without things", x.drawn(9, 1), 0);
        due("30: without things", x.drawn(0, 1), -1);
        x = Check.with("things 3;");
        due("30: none", x.drawn(0, 1), -1);
        due("30: none", x.drawn(61, 1), -1);
        due("30: none", x.drawn(-1, 1), -1);
        due("30: no acts", x.now(3), 0);
        due("30: one", Check.with("things 3;").drawn(1, 1), oneDeed(1));
        due("30: one", Check.with("things 3;").drawn(1, 9), oneDeed(9));
        int[] pairs = new int[3];
        int[] weights = new int[8];
        int[] seeds = {1, 5, -77, SMALL, BIG, 0};
        for (int seed : seeds) {
            int[] s = {seed};
            for (int i = 0; i < 60; i++) {
                deed(s, pairs, weights);
            }
            int told = 0;
            for (int set = 0; set < 8; set++) {
                told += weights[set] > 0 ? 1 : 0;
            }
            due("30: told", x.drawn(60, seed), told);
            for (int set = 0; set < 8; set++) {
                due("30: weight " + set, x.weight(set), weights[set]);
            }
            for (int thing = 0; thing < 3; thing++) {
                due("30: joined " + thing, x.joined(thing), pairs[thing]);
            }
        }
        due("30: acts", x.now(3), seeds.length);
    }

    private static int oneDeed(int seed) {
        return draw(new int[] {seed}, 3) == 1 ? 1 : 0;
    }

    private static int draw(int[] s, int n) {
        s[0] = s[0] * 1103515245 + 12345;
        return (s[0] >>> 8) % n;
    }

    private static void deed(int[] s, int[] pairs, int[] weights) {
        int kind = draw(s, 3);
        if (kind == 0) {
            int a = draw(s, 3);
            int b = draw(s, 3);
            if (a != b) {
                pairs[a] ^= 1 << b;
                pairs[b] ^= 1 << a;
            }
        } else if (kind == 1) {
            int set = draw(s, 8);
            weights[set] = draw(s, 100) + 1;
        } else {
            weights[draw(s, 8)] = 0;
        }
    }

    private static void promise31() {
        PartSums x = new PartSums();
        due("31: none", x.undo(), -1);
        x.drawn(5, 5);
        due("31: drawn without things", x.undo(), -1);
        x = Check.with(LINE);
        fillAll(x, 0, 3);
        x.put(0, 0, 0);
        fill(x, 1, 1, 2, 3, 4, 5, 6, 7, 8);
        x.image(0);
        for (int act = 0; act < 15; act++) {
            x.restore(0);
            due("31: none after restore", x.undo(), -1);
            int before = print(x);
            doAct(x, act);
            due("31: act " + act + " is one", x.now(3), 1);
            due("31: act " + act + " changes something", print(x) != before, true);
            due("31: undone " + act, x.undo(), 0);
            due("31: as it was " + act, print(x), before);
            due("31: no more", x.undo(), -1);
        }
        x.restore(0);
        x.put(1, 1, 1);
        x.put(1, 1, 1);
        due("31: one that changes nothing", x.now(3), 2);
        for (int i = 2; i < 12; i++) {
            x.put(1, 1, i);
        }
        due("31: eight at most", x.now(3), 8);
        for (int i = 7; i >= 0; i--) {
            due("31: how many more", x.undo(), i);
            due("31: as it was", x.at(1, 1), i + 3);
        }
        due("31: none", x.undo(), -1);
        x.put(1, 1, 5);
        x.put(1, 9, 5);
        x.join(0, 0, true);
        x.weigh(9, 9);
        due("31: NONE is no act", x.now(3), 1);
    }

    private static void doAct(PartSums x, int act) {
        switch (act) {
            case 0: x.put(2, 3, 4); break;
            case 1: x.lay(2, 6); break;
            case 2: x.sum(0, false); break;
            case 3: x.back(0, true); break;
            case 4: x.times(0, 0, 3, 1); break;
            case 5: x.power(0, 0, 3); break;
            case 6: x.allWays(0, 0); break;
            case 7: x.weigh(7, 9); break;
            case 8: x.join(0, 2, true); break;
            case 9: x.name(0, 2); break;
            case 10: x.drawn(60, 3); break;
            case 11: x.times(0, 0, 5, 0); break;
            case 12: x.inverse(1, 1); break;
            case 13: x.roots(1, 2); break;
            default: x.sum(0, true);
        }
    }

    private static int print(PartSums x) {
        int made = x.now(0);
        for (int set = 0; set < 8; set++) {
            made = made * 31 + x.weight(set);
            for (int row = 0; row < 4; row++) {
                made = made * 31 + x.at(row, set);
            }
        }
        return made * 31 * 31 * 31 + x.joined(0) * 31 * 31 + x.joined(1) * 31 + x.joined(2);
    }

    private static void promise32() {
        PartSums x = Check.with(LINE);
        due("32: none", x.image(-1), false);
        due("32: none", x.image(2), false);
        due("32: none", x.image(BIG), false);
        due("32: nothing is kept so", x.restore(0), false);
        x.put(0, 7, 8);
        due("32: 0", x.image(0), true);
        due("32: acts stay", x.now(3), 1);
        x.put(0, 7, 9);
        due("32: 1", x.image(1), true);
        x.restore(0);
        due("32: in place 0", x.at(0, 7), 8);
        x.restore(1);
        due("32: in place 1", x.at(0, 7), 9);
        x.put(0, 7, 10);
        due("32: anew", x.image(0), true);
        x.put(0, 7, 11);
        x.restore(0);
        due("32: anew", x.at(0, 7), 10);
    }

    private static void promise33() {
        PartSums x = new PartSums();
        due("33: nothing is kept", x.restore(0), false);
        x.image(1);
        due("33: nothing is kept", x.restore(0), false);
        Check.tell(x, LINE);
        x.put(3, 5, 6);
        x.image(0);
        int before = print(x);
        x.drawn(60, 8);
        x.lay(3, 6);
        x.name(0, 1);
        due("33: none", x.restore(2), false);
        due("33: none", x.restore(-1), false);
        due("33: acts stay then", x.now(3), 4);
        Check.tell(x, "things 7;set gg;");
        x.feed(0, 0, 0, 0, 0);
        due("33: as kept", x.restore(0), true);
        due("33: as kept", print(x), before);
        due("33: the tape stays", x.now(4), 20);
        due("33: the fault stays", x.fault(), 3);
        due("33: nothing can be undone", x.undo(), -1);
        due("33: without things", x.restore(1), true);
        due("33: without things", x.now(0), 0);
        due("33: without sets", x.weight(0), -1);
        due("33: again", x.restore(0), true);
        due("33: again", print(x), before);
    }
}
