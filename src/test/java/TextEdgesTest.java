/** Each sentence on tokens, texts, faults and the tape (promises 2 to 5) that names a boundary, by itself. */
public final class TextEdgesTest {
    private TextEdgesTest() {
    }

    private static void right(String text, int lines) {
        PartSums x = new PartSums();
        Check.due("text() of " + shown(text), Check.tell(x, text), lines);
        Check.due("fault() of " + shown(text), x.fault(), 0);
    }

    private static void wrong(String text, int kind, int place) {
        PartSums x = new PartSums();
        Check.due("text() of " + shown(text), Check.tell(x, text), -1 - place);
        Check.due("fault() of " + shown(text), x.fault(), kind);
    }

    private static String shown(String text) {
        return text.replace("\n", "\\n").replaceAll(" {9,}", " .. ");
    }

    private static String filled(String begin, int to) {
        return begin + " ".repeat(to - begin.length());
    }

    public static void main(String[] args) {
        blanks();
        wordsAndNumbers();
        runs();
        lines();
        firstLine();
        setLines();
        pairLines();
        whichFault();
        placesOfFaultOne();
        beyondTheLimit();
        otherFaults();
        feed();
        end();
        text();
        textWithAFault();
        fault();
        Check.finish();
    }

    private static boolean isBlank(int b) {
        return b == 32 || b == 10;
    }

    private static boolean isLetter(int b) {
        return b >= 97 && b <= 122;
    }

    private static boolean isDigit(int b) {
        return b >= 48 && b <= 57;
    }

    private static void blanks() {
        Check.sentence("Terms", "blanks (32, 10) between them");
        for (int b = 0; b < 256; b++) {
            String gapped = "things" + (char) b + "1;";
            if (isBlank(b)) {
                right(gapped, 1);
            } else {
                wrong(gapped, 1, isLetter(b) || isDigit(b) ? 0 : 6);
            }
        }
        right(" \n things \n 1 \n ; \n set \n a \n 7 \n ; \n ", 2);
        Check.sentence("Terms", "between them or not");
        right("things 2;set ab;pair ab;set a 3;", 4);
    }

    private static void wordsAndNumbers() {
        Check.sentence("Terms", "WORDS: small letters");
        for (int b = 0; b < 256; b++) {
            String word = "things 8;set " + (char) b + ";";
            if (b >= 'a' && b <= 'h') {
                right(word, 2);
            } else {
                wrong(word, isLetter(b) ? 3 : 1, isBlank(b) ? 14 : 13);
            }
        }
        Check.sentence("Terms", "NUMBERS: 1 to 3 digits");
        for (int b = 0; b < 256; b++) {
            String number = "things " + (char) b + ";";
            if (b >= '1' && b <= '8') {
                right(number, 1);
            } else {
                wrong(number, isDigit(b) ? 2 : 1, isBlank(b) ? 8 : 7);
            }
        }
        right("things 08;", 1);
        right("things 008;", 1);
        wrong("things 0008;", 1, 7);
        wrong("things 00000000000000000008;", 1, 7);
        right("things 1;set a 7;", 2);
        right("things 1;set a 07;", 2);
        right("things 1;set a 007;", 2);
        wrong("things 1;set a 0007;", 1, 15);
        wrong("things 1;set a 4294967297;", 1, 15);
    }

    private static void runs() {
        Check.sentence("Terms", "A WORD, NUMBER goes on as long as small letters and digits do");
        wrong("things1;", 1, 0);
        wrong("1things 1;", 1, 0);
        wrong("things 1a;", 1, 7);
        wrong("things 2;set1 a;", 1, 9);
        wrong("things 2;set a1;", 1, 13);
        wrong("things 2;set a 1b;", 1, 15);
        wrong("things 2;set a 12b3", 1, 15);
        wrong("things 2;pair ab2;", 1, 14);
        wrong("things 2;pair 2ab;", 1, 14);
        Check.reading("Terms", "and no longer");
        wrong("things 2;set aB;", 1, 14);
        wrong("things 2;set zB;", 3, 13);
        wrong("things 1:;", 1, 8);
        wrong("things 9:;", 2, 7);
        Check.sentence("Terms", "what is not as told is no TOKEN");
        for (String sign : new String[] {"!", ",", ".", "-", "+", "_", "A", "\t", "\r", "\u0000", "\u007f", "\u00a0"}) {
            wrong(sign, 1, 0);
            wrong("things 2;" + sign, 1, 9);
            wrong("things 2;set a 5" + sign + ";", 1, 16);
        }
    }

    private static void lines() {
        Check.sentence("Terms", "A TEXT has at most 500 bytes");
        right(filled("things 3;", 500), 1);
        right(filled("", 500), 0);
        right(filled("things 3;", 494) + "set a;", 2);
        wrong(filled("things 3;", 501), 1, 500);
        wrong(filled("things 3;", 540), 1, 500);
        Check.sentence("Terms", "{ LINE ; }");
        right("", 0);
        right("things 1;", 1);
        wrong("things 1", 1, 8);
        wrong(";", 1, 0);
        wrong("things 1;;", 1, 9);
        wrong("things 1;set a", 1, 14);
        wrong("things 2;pair ab", 1, 16);
        wrong("things 2;set a set b;", 1, 15);
    }

    private static void firstLine() {
        Check.sentence("Terms", "The first LINE: 'things' N (1 to 8");
        for (int n = 1; n <= 8; n++) {
            right("things " + n + ";", 1);
        }
        wrong("things 0;", 2, 7);
        wrong("things 9;", 2, 7);
        wrong("things 10;", 2, 7);
        wrong("things 999;", 2, 7);
        wrong("set a;", 1, 0);
        wrong("pair ab;", 1, 0);
        wrong("8;", 1, 0);
        wrong("thing 2;", 1, 0);
        wrong("xhings 2;", 1, 0);
        wrong("thingx 2;", 1, 0);
        wrong("thingss 2;", 1, 0);
        wrong("things;", 1, 6);
        wrong("things a;", 1, 7);
        wrong("things 2 2;", 1, 9);
        wrong("things 2;things 2;", 1, 9);
        Check.sentence("Terms", "a, b, c .. as many letters as that");
        for (int n = 1; n <= 8; n++) {
            right("things " + n + ";set " + (char) ('a' + n - 1) + ";", 2);
            wrong("things " + n + ";set " + (char) ('a' + n) + ";", 3, 13);
        }
    }

    private static void setLines() {
        Check.sentence("Terms", "'set' WORD [ N ]");
        wrong("things 2;set;", 1, 12);
        wrong("things 2;set 5;", 1, 13);
        wrong("things 2;set a b;", 1, 15);
        wrong("things 2;set a 5 5;", 1, 17);
        wrong("things 2;sets a;", 1, 9);
        wrong("things 2;se a;", 1, 9);
        wrong("things 2;xet a;", 1, 9);
        wrong("things 2;sex a;", 1, 9);
        Check.sentence("Terms", "letters of THINGS, none twice: a SET that is TOLD");
        right("things 8;set hgfedcba;", 2);
        wrong("things 8;set hgfedcbah;", 3, 13);
        wrong("things 8;set aa;", 3, 13);
        wrong("things 8;set aba;", 3, 13);
        wrong("things 8;set ai;", 3, 13);
        Check.sentence("Terms", "its WEIGHT 1 to 999, 1 without");
        PartSums x = Check.with("things 3;set a;set b 1;set ab 999;set c 001;set ac 090;");
        Check.due("without", x.weight(1), 1);
        Check.due("1", x.weight(2), 1);
        Check.due("999", x.weight(3), 999);
        Check.due("001", x.weight(4), 1);
        Check.due("090", x.weight(5), 90);
        wrong("things 2;set a 0;", 2, 15);
        wrong("things 2;set a 000;", 2, 15);
        wrong("things 2;set a 1000;", 1, 15);
    }

    private static void pairLines() {
        Check.sentence("Terms", "'pair' WORD");
        wrong("things 2;pair;", 1, 13);
        wrong("things 2;pair 5;", 1, 14);
        wrong("things 2;pair ab 5;", 1, 17);
        wrong("things 2;pair ab ab;", 1, 17);
        wrong("things 2;pairs ab;", 1, 9);
        wrong("things 2;pai ab;", 1, 9);
        wrong("things 2;xair ab;", 1, 9);
        wrong("things 2;paix ab;", 1, 9);
        Check.sentence("Terms", "two letters of THINGS, unlike: they are JOINED");
        PartSums x = Check.with("things 8;pair ha;pair gh;");
        Check.due("a", x.joined(0), 128);
        Check.due("g", x.joined(6), 128);
        Check.due("h", x.joined(7), 65);
        wrong("things 3;pair a;", 3, 14);
        wrong("things 3;pair abc;", 3, 14);
        wrong("things 3;pair aba;", 3, 14);
        wrong("things 3;pair aa;", 3, 14);
        wrong("things 3;pair ad;", 3, 14);
        wrong("things 3;pair da;", 3, 14);
        wrong("things 1;pair ab;", 3, 14);
    }

    private static void whichFault() {
        Check.sentence("Terms", "FAULTS, the first along the text");
        wrong("things 2;set z 0 0;pair a;?", 3, 13);
        wrong("things 2;set a 0 0;pair a;?", 2, 15);
        wrong("things 2;set a 5 0;pair a;?", 1, 17);
        wrong("things 2;set a;set a 0;pair a;?", 4, 19);
        wrong("things 9;set z;set z;", 2, 7);
        wrong("things 2;set a 0", 2, 15);
        wrong("things 2;set zz", 3, 13);
        wrong("things 2;set a;set a", 4, 19);
        Check.sentence("Terms", "of one TOKEN the least");
        wrong("things 2;zz a;", 1, 9);
        wrong("things 2;set a zz;", 1, 15);
        wrong("things 2;set a 5 zz;", 1, 17);
        wrong("things 2;pair ab 0;", 1, 17);
        wrong("things 2 0;", 1, 9);
        wrong("things 2;set 0;", 1, 13);
        wrong("0;", 1, 0);
        wrong("things 2;set ab;set aba;", 3, 20);
        wrong("things 2;pair ab;pair abb;", 3, 22);
    }

    private static void placesOfFaultOne() {
        Check.sentence("Terms", "1 no TOKEN, or one that can't come (at it");
        wrong("  \n ?", 1, 4);
        wrong("things 2; \n x;", 1, 12);
        wrong("things 2;set \n ;", 1, 15);
        wrong("things \n 2x;", 1, 9);
        Check.sentence("Terms", "the end: how many bytes there are");
        wrong("things", 1, 6);
        wrong("things   ", 1, 9);
        wrong("things 2", 1, 8);
        wrong("things 2 \n", 1, 10);
        wrong("things 2;set", 1, 12);
        wrong("things 2;set \n\n", 1, 15);
        wrong("things 2;set a", 1, 14);
        wrong("things 2;set a 7", 1, 16);
        wrong("things 2;set a 7 ", 1, 17);
        wrong("things 2;pair", 1, 13);
        wrong("things 2;pair ab", 1, 16);
        wrong(filled("things 3;set a", 499), 1, 499);
        wrong(filled("things 3;set a", 500), 1, 500);
    }

    private static void beyondTheLimit() {
        Check.sentence("Terms", "500, if there are more");
        wrong(filled("things 3;", 500) + ";", 1, 500);
        wrong(filled("things 3;", 500) + " ", 1, 500);
        wrong(filled("things 3;", 500) + "set a;", 1, 500);
        wrong(filled("things 3;", 494) + "set a;?", 1, 500);
        wrong(filled("things 3;", 520) + "?", 1, 500);
        wrong(filled("", 501), 1, 500);
        wrong(filled("", 540), 1, 500);
        wrong(filled("things 3;set a", 501), 1, 500);
        wrong(filled("things 3;set a", 500) + ";", 1, 500);
        wrong(filled("", 500) + "things 3;", 1, 500);
        Check.sentence("Terms", "and no FAULT is ahead");
        wrong(filled("?", 540), 1, 0);
        wrong(filled("things 9;", 540), 2, 7);
        wrong(filled("things 3;set d;", 540), 3, 13);
        wrong(filled("things 3;set a;set a;", 540), 4, 19);
        wrong(filled("things 3;", 499) + "?;", 1, 499);
        wrong(filled("things 3;", 499) + ";;", 1, 499);
        Check.sentence("Terms", "TOKENS that begin ahead of it are read whole");
        wrong(filled("things 3;set", 499) + "ab", 1, 500);
        wrong(filled("things 3;set", 499) + "ad", 3, 499);
        wrong(filled("things 3;set", 499) + "aa", 3, 499);
        wrong(filled("things 3;set", 499) + "a" + "b".repeat(40), 3, 499);
        wrong(filled("things 3;set", 499) + "a1", 1, 499);
        wrong(filled("things 3;set a;set", 499) + "ab", 1, 500);
        wrong(filled("things 3;set ab;set", 499) + "ba", 4, 499);
        wrong(filled("things 3;pair", 499) + "ab", 1, 500);
        wrong(filled("things 3;pair", 499) + "abc", 3, 499);
        wrong(filled("things 3;pair ab;pair", 499) + "ba", 4, 499);
        wrong(filled("things 3;set a", 499) + "01", 1, 500);
        wrong(filled("things 3;set a", 499) + "00", 2, 499);
        wrong(filled("things 3;set a", 499) + "1234", 1, 499);
        wrong(filled("things", 499) + "12", 2, 499);
        wrong(filled("things", 499) + "08", 1, 500);
        wrong(filled("things 3;", 499) + "set a;", 1, 500);
        wrong(filled("things 3;", 499) + "sets a;", 1, 499);
        wrong(filled("", 499) + "things 3;", 1, 500);
    }

    private static void otherFaults() {
        Check.sentence("Terms", "2 a NUMBER that is not as told (at it)");
        wrong("things \n\n 0;", 2, 10);
        wrong("things 2;set a \n 00;", 2, 17);
        Check.sentence("Terms", "3 a WORD that is not as told (at it)");
        wrong("things 2;set \n c;", 3, 15);
        wrong("things 2;pair \n c;", 3, 16);
        Check.sentence("Terms", "4 a SET, a PAIR told twice (by its THINGS, at its WORD)");
        wrong("things 3;set abc;set cab 5;", 4, 21);
        wrong("things 3;set abc 5;set \n abc;", 4, 25);
        wrong("things 3;pair ab;pair ba;", 4, 22);
        wrong("things 3;pair ab;pair ab;", 4, 22);
        wrong("things 3;pair ba;set c;pair ab;", 4, 28);
        right("things 3;set ab;pair ab;", 3);
        right("things 3;pair ab;set ba;", 3);
        right("things 3;pair ab;pair ac;pair bc;set a;set b;", 6);
        Check.sentence("Terms", "'set', 'pair', 'things' may be WORDS of letters, too");
        wrong("things 8;set set;", 3, 13);
        wrong("things 8;set pair;", 3, 13);
        wrong("things 8;set things;", 3, 13);
        wrong("things 8;pair set;", 3, 14);
        wrong("things 8;pair pair;", 3, 14);
        wrong("things 8;pair things;", 3, 14);
        Check.sentence("Terms", "where such ones come");
        wrong("things 8;set a set;", 1, 15);
        wrong("things 8;pair ab pair;", 1, 17);
        wrong("things things;", 1, 7);
    }

    private static void feed() {
        Check.sentence("2", "Twenty bytes come behind the tape, of each number the highest first: how many it has");
        PartSums x = new PartSums();
        Check.due("feed", x.feed(0x7468696e, 0x67732034, 0x3b736574, 0x20616220, 0x37373b20), 20);
        Check.due("'things 4;set ab 77; '", x.text(), 2);
        Check.due("things", x.now(0), 4);
        Check.due("weight of ab", x.weight(3), 77);
        Check.due("empty again", x.feed(0x7468696e, 0x67732020, 0, 0, 0), 20);
        x.end(7);
        Check.due("behind seven", x.feed(0x333b2020, 0x20202020, 0x20202020, 0x20202020, 0x2020200a), 27);
        Check.due("'things 3;'", x.text(), 1);
        Check.due("things", x.now(0), 3);
        x.feed(-1, -1, -1, -1, -1);
        Check.due("bytes 255", x.text(), -1);
        Check.sentence("2", "NONE, and none come, if it would have more than 540");
        Check.tape(x, filled("things 1;", 520));
        Check.due("540", x.feed(0x20202020, 0x20202020, 0x20202020, 0x20202020, 0x20202020), 540);
        Check.due("560", x.feed(0, 0, 0, 0, 0), -1);
        Check.due("none came", x.now(4), 540);
        x.end(521);
        Check.due("541", x.feed(0, 0, 0, 0, 0), -1);
        Check.due("none came", x.now(4), 521);
        x.end(500);
        Check.due("what was there stays", x.text(), 1);
        for (int i = 1; i <= 27; i++) {
            Check.due("feed", x.feed(0, 0, 0, 0, 0), 20 * i);
        }
        Check.due("the 28th", x.feed(0, 0, 0, 0, 0), -1);
    }

    private static void end() {
        Check.sentence("3", "The tape has its first n bytes alone: true");
        PartSums x = new PartSums();
        Check.due("0 of 0", x.end(0), true);
        Check.tape(x, "things 3;things 4;");
        Check.due("all", x.end(18), true);
        Check.due("all are there", x.now(4), 18);
        Check.due("some", x.end(9), true);
        Check.due("these alone", x.now(4), 9);
        Check.due("the first", x.text(), 1);
        Check.tape(x, "things 4;");
        Check.due("none", x.end(0), true);
        Check.due("none", x.now(4), 0);
        Check.due("none", x.text(), 0);
        Check.sentence("3", "false, if it has not so many");
        Check.due("1 of 0", x.end(1), false);
        Check.tape(x, "things 3;");
        Check.due("10 of 9", x.end(10), false);
        Check.due("far too many", x.end(Integer.MAX_VALUE), false);
        Check.due("541", x.end(541), false);
        Check.due("all stay", x.now(4), 9);
        Check.due("all stay", x.text(), 1);
        Check.due("the tape is empty", x.end(9), false);
        Check.sentence("3", "or n is below 0");
        Check.tape(x, "things 3;");
        Check.due("-1", x.end(-1), false);
        Check.due("far below", x.end(Integer.MIN_VALUE), false);
        Check.due("all stay", x.now(4), 9);
        Check.due("all stay", x.text(), 1);
    }

    private static void text() {
        Check.sentence("4", "The tape (empty then");
        PartSums x = new PartSums();
        Check.tell(x, "things 2;set a 5;pair ab;");
        Check.due("bytes", x.now(4), 0);
        Check.sentence("4", "is a TEXT, whose THINGS, SETS, PAIRS are so now");
        Check.due("anew", Check.tell(x, "things 3;set b 7;pair bc;"), 3);
        Check.due("the ground", Check.ground(x), "things 3 told 1 pairs 1 joined 0 4 2 | 0 0 0 0 0 | 0 0 0 0 0"
            + " | 7 0 0 0 0 | 0 0 0 0 0 | 0 0 0 0 0 | 0 0 0 0 0 | 0 0 0 0 0 | 0 0 0 0 0");
        Check.sentence("4", "an empty one: none");
        Check.due("an empty tape", x.text(), 0);
        Check.due("the ground", Check.ground(x), "things 0 told 0 pairs 0 joined");
        Check.tell(x, "things 3;set b 7;pair bc;");
        Check.due("blanks alone", Check.tell(x, " \n "), 0);
        Check.due("the ground", Check.ground(x), "things 0 told 0 pairs 0 joined");
        Check.sentence("4", "how many LINES");
        Check.due("one", Check.tell(x, "things 2;\n\n\n"), 1);
        StringBuilder many = new StringBuilder("things 8;");
        int lines = 1;
        for (int a = 0; a < 8; a++) {
            many.append("set ").append((char) ('a' + a)).append(';');
            lines++;
            for (int b = 0; b < a; b++) {
                many.append("pair ").append((char) ('a' + a)).append((char) ('a' + b)).append(';');
                lines++;
            }
        }
        Check.due("many", Check.tell(x, many.toString()), lines);
        Check.due("sets", x.now(1), 8);
        Check.due("pairs", x.now(2), 28);
        Check.due("lines", lines, 37);
    }

    private static void textWithAFault() {
        String[] texts = {"?", "things 9;", "things 8;set i;", "things 2;set ab;pair ab;set ba;", filled("", 540)};
        int[] answers = {-1, -8, -14, -29, -501};
        Check.sentence("4", "-1 less the place of a FAULT");
        for (int i = 0; i < texts.length; i++) {
            Check.due(shown(texts[i]), Check.tell(new PartSums(), texts[i]), answers[i]);
        }
        Check.sentence("4", "all stays");
        for (String text : texts) {
            PartSums x = Check.busy();
            String ahead = Check.ground(x);
            x.end(0);
            Check.tell(x, text);
            Check.due("the ground behind " + shown(text), Check.ground(x), ahead);
            Check.due("acts", x.now(3), 6);
            Check.due("undo", x.undo(), 5);
            Check.due("the image", x.restore(0), true);
        }
        Check.sentence("4", "empty then, even with a FAULT");
        for (String text : texts) {
            PartSums x = new PartSums();
            Check.tell(x, text);
            Check.due("bytes", x.now(4), 0);
            Check.due("the next text", Check.tell(x, "things 2;"), 1);
        }
    }

    private static void fault() {
        Check.sentence("5", "0 without one and ahead of any");
        PartSums x = new PartSums();
        Check.due("ahead of any", x.fault(), 0);
        Check.tape(x, "?");
        Check.due("ahead of any, with a tape", x.fault(), 0);
        x.text();
        Check.due("1", x.fault(), 1);
        x.text();
        Check.due("an empty one", x.fault(), 0);
        Check.tell(x, "things 0;");
        Check.tell(x, "things 1;");
        Check.due("without one", x.fault(), 0);
        Check.sentence("5", "The kind of the FAULT of the latest text()");
        Check.tell(x, "things 0;");
        Check.due("2", x.fault(), 2);
        Check.due("2 again", x.fault(), 2);
        Check.tape(x, "things 1;set b;");
        Check.due("2 until the next", x.fault(), 2);
        x.text();
        Check.due("3", x.fault(), 3);
        Check.tell(x, "things 1;set a;set a;");
        Check.due("4", x.fault(), 4);
        Check.tell(x, "things");
        Check.due("1", x.fault(), 1);
    }
}
