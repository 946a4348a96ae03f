/** Tokens, lines and faults of texts, with their places; answers by hand. */
public final class TextTest {
    private TextTest() {
    }

    private static void right(String text, int lines) {
        PartSums x = new PartSums();
        Check.due("text() of " + text, Check.tell(x, text), lines);
        Check.due("fault() of " + text, x.fault(), 0);
    }

    private static void wrong(String text, int kind, int place) {
        PartSums x = new PartSums();
        Check.due("text() of " + text, Check.tell(x, text), -1 - place);
        Check.due("fault() of " + text, x.fault(), kind);
        Check.due("now(0) after " + text, x.now(0), 0);
    }

    public static void main(String[] args) {
        rightOnes();
        notAToken();
        notThere();
        numbersAndWords();
        twice();
        aboutTheLimit();
        Check.finish();
    }

    private static void rightOnes() {
        right("", 0);
        right(" \n\n ", 0);
        right("things 1;", 1);
        right("things 008;", 1);
        right("things\n8\n;", 1);
        right("things 8;set hgfedcba 999;set h;pair hg;set gh;pair ab;", 6);
        right("  things 2 ; set ab 001 ;pair\nba;  ", 3);
        right("things 3;set a;set b;pair ab;set ab;", 5);
    }

    private static void notAToken() {
        wrong("Things 2;", 1, 0);
        wrong("things2;", 1, 0);
        wrong("things 1000;", 1, 7);
        wrong("things 0001;", 1, 7);
        wrong("things 2a;", 1, 7);
        wrong("things\t2;", 1, 6);
        wrong("things 2\r;", 1, 8);
        wrong("things -2;", 1, 7);
        wrong("things 2;set a1;", 1, 13);
        wrong("things 2;set aB;", 1, 14);
        wrong("things 2;set\u0000a;", 1, 12);
        wrong("things 2;set \u00e1;", 1, 13);
        wrong("things 2;set a,3;", 1, 14);
        wrong("things 2;`", 1, 9);
        wrong("things 2;{", 1, 9);
        wrong("things 2;:", 1, 9);
        wrong("things 2;/", 1, 9);
    }

    private static void notThere() {
        wrong(";", 1, 0);
        wrong("7;", 1, 0);
        wrong("set a;", 1, 0);
        wrong("thing 2;", 1, 0);
        wrong("thingss 2;", 1, 0);
        wrong("xhings 2;", 1, 0);
        wrong("thinxs 2;", 1, 0);
        wrong("thingx 2;", 1, 0);
        wrong("things 2;xet a;", 1, 9);
        wrong("things 2;sea a;", 1, 9);
        wrong("things 2;pain ab;", 1, 9);
        wrong("things", 1, 6);
        wrong("things ", 1, 7);
        wrong("things ;", 1, 7);
        wrong("things set;", 1, 7);
        wrong("things 2", 1, 8);
        wrong("things 2  ", 1, 10);
        wrong("things 2 2;", 1, 9);
        wrong("things 2;;", 1, 9);
        wrong("things 2;things 2;", 1, 9);
        wrong("things 2;a;", 1, 9);
        wrong("things 2;se a;", 1, 9);
        wrong("things 2;3;", 1, 9);
        wrong("things 2;set;", 1, 12);
        wrong("things 2;set", 1, 12);
        wrong("things 2;set 3;", 1, 13);
        wrong("things 2;set a", 1, 14);
        wrong("things 2;set a b;", 1, 15);
        wrong("things 2;set a 3", 1, 16);
        wrong("things 2;set a 3 4;", 1, 17);
        wrong("things 2;set a 3 b;", 1, 17);
        wrong("things 2;pair;", 1, 13);
        wrong("things 2;pair 2;", 1, 14);
        wrong("things 2;pair ab", 1, 16);
        wrong("things 2;pair ab 3;", 1, 17);
        wrong("things 2;pair a b;", 3, 14);
    }

    private static void numbersAndWords() {
        wrong("things 0;", 2, 7);
        wrong("things 000", 2, 7);
        wrong("things 9;", 2, 7);
        wrong("things 999;", 2, 7);
        wrong("things 2;set a 0;", 2, 15);
        wrong("things 2;set a 00", 2, 15);
        wrong("things 2;set a 000 5;", 2, 15);
        wrong("things 2;set c;", 3, 13);
        wrong("things 2;set abc", 3, 13);
        wrong("things 2;set aa 0;", 3, 13);
        wrong("things 2;set set;", 3, 13);
        wrong("things 8;set pair;", 3, 13);
        wrong("things 8;pair things;", 3, 14);
        wrong("things 8;pair set;", 3, 14);
        wrong("things 8;set i;", 3, 13);
        wrong("things 8;set z;", 3, 13);
        wrong("things 2;pair a;", 3, 14);
        wrong("things 3;pair abc;", 3, 14);
        wrong("things 2;pair aa;", 3, 14);
        wrong("things 2;pair ac;", 3, 14);
    }

    private static void twice() {
        wrong("things 2;set ab;set ba;", 4, 20);
        wrong("things 2;set ab;set ba 0;", 4, 20);
        wrong("things 2;set ab 7;set ab", 4, 22);
        wrong("things 2;pair ab;pair ba;", 4, 22);
        wrong("things 2;pair ab;pair ab", 4, 22);
        wrong("things 2;pair ab;set ab;set b;pair ba", 4, 35);
    }

    private static String filled(String begin, int to) {
        StringBuilder text = new StringBuilder(begin);
        while (text.length() < to) {
            text.append(' ');
        }
        return text.toString();
    }

    private static void aboutTheLimit() {
        right(filled("things 3;", 500), 1);
        wrong(filled("things 3;", 501), 1, 500);
        wrong(filled("", 501), 1, 500);
        right(filled("things 3;", 494) + "set a;", 2);
        wrong(filled("things 3;", 495) + "set a;", 1, 500);
        wrong(filled("things 3;", 494) + "set a; ", 1, 500);
        wrong(filled("things 3;", 494) + "set a;;", 1, 500);
        wrong(filled("things 3;", 495) + "set a", 1, 500);
        wrong(filled("things 3;", 493) + "set a", 1, 498);
        wrong(filled("things 3;", 493) + "set ad 3;", 3, 497);
        wrong(filled("things 3;", 495) + "set aa;", 3, 499);
        wrong(filled("things 3;", 495) + "set abcabc;", 3, 499);
        wrong(filled("things 3;set abc;", 495) + "set cba;", 4, 499);
        wrong(filled("things 3;set abc;", 496) + "set cba;", 1, 500);
        wrong(filled("things 3;", 493) + "set a 1234;", 1, 499);
        wrong(filled("things 3;", 493) + "set a 123a;", 1, 499);
        wrong(filled("things 3;", 493) + "set a 000;", 2, 499);
        wrong(filled("things 3;", 493) + "set a 123;", 1, 500);
        wrong(filled("things 3;", 494) + "set a 000;", 1, 500);
        wrong(filled("things 3;", 499) + "se a;", 1, 499);
        wrong(filled("things 3;", 499) + "set a;", 1, 500);
        wrong(filled("things 3;", 499) + "Set a;", 1, 499);
        wrong(filled("things 3;", 500) + "Set a;", 1, 500);
        wrong(filled("things 3;set d;", 540), 3, 13);
    }
}
