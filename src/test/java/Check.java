import java.nio.charset.StandardCharsets;
import java.util.NoSuchElementException;
import java.util.function.ToLongFunction;

/** Counts answers that are not as due, and tells texts to an object. */
final class Check {
    private static int wrong;
    private static int made;
    private static int sentences;
    private static int madeAhead;
    private static String sentence = "";

    private Check() {
    }

    /**
     * From here on answers are due by these words of the document ('..' where some are left out, 'likewise:' ahead of
     * what a promise takes over from another one); each such sentence has answers of its own.
     */
    static void sentence(String where, String words) {
        begin(where + " '" + words + "': ");
    }

    /** From here on answers are due by what the words of the document come to, or as NOTES.md reads them. */
    static void reading(String where, String what) {
        begin(where + ", as read (" + what + "): ");
    }

    private static void begin(String ofWhat) {
        endSentence();
        sentences++;
        sentence = ofWhat;
        madeAhead = made;
    }

    private static void endSentence() {
        if (!sentence.isEmpty() && made == madeAhead) {
            wrong++;
            System.out.println(sentence + "has no answers");
        }
    }

    static void due(String what, long got, long want) {
        made++;
        if (got != want) {
            blame(what, Long.toString(got), Long.toString(want));
        }
    }

    static void due(String what, boolean got, boolean want) {
        due(what, got ? 1 : 0, want ? 1 : 0);
    }

    static void due(String what, String got, String want) {
        made++;
        if (!got.equals(want)) {
            blame(what, got, want);
        }
    }

    private static void blame(String what, String got, String want) {
        wrong++;
        if (wrong <= 40) {
            System.out.println(sentence + what + " answered " + got + ", due is " + want);
        }
    }

    /** part() as a number: -2 where it throws what the document names. */
    static int part(PartSums x, int set, int i) {
        try {
            return x.part(set, i);
        } catch (NoSuchElementException e) {
            return -2;
        }
    }

    /** Puts a text of at most 540 bytes on an empty tape. */
    static void tape(PartSums x, String text) {
        byte[] bytes = text.getBytes(StandardCharsets.ISO_8859_1);
        for (int from = 0; from < bytes.length; from += 20) {
            int[] five = new int[5];
            for (int i = 0; i < 20; i++) {
                int b = from + i < bytes.length ? bytes[from + i] & 255 : 0;
                five[i / 4] |= b << (24 - 8 * (i % 4));
            }
            x.feed(five[0], five[1], five[2], five[3], five[4]);
        }
        x.end(bytes.length);
    }

    static int tell(PartSums x, String text) {
        tape(x, text);
        return x.text();
    }

    static PartSums with(String text) {
        PartSums x = new PartSums();
        due("text() of " + text, tell(x, text) >= 0, true);
        return x;
    }

    static void fill(PartSums x, int row, int... numbers) {
        for (int set = 0; set < numbers.length; set++) {
            x.put(row, set, numbers[set]);
        }
    }

    static void fillAll(PartSums x, int row, int v) {
        for (int set = 0; x.at(row, set) >= 0; set++) {
            x.put(row, set, v);
        }
    }

    static void row(String what, PartSums x, int row, long... want) {
        for (int set = 0; set < want.length; set++) {
            due(what + ": at(" + row + ", " + set + ")", x.at(row, set), want[set]);
        }
        due(what + ": no more sets", x.at(row, want.length), -1);
    }

    /** A ground of so many things, each two of them joined. */
    static String complete(int things) {
        StringBuilder text = new StringBuilder("things ").append(things).append(";");
        for (int a = 0; a < things; a++) {
            for (int b = 0; b < a; b++) {
                text.append("pair ").append((char) ('a' + a)).append((char) ('a' + b)).append(";");
            }
        }
        return text.toString();
    }

    /** Things, sets, pairs and rows; meant for few things, as every number is asked for. */
    static String ground(PartSums x) {
        StringBuilder made = new StringBuilder("things ").append(x.now(0)).append(" told ").append(x.now(1));
        made.append(" pairs ").append(x.now(2)).append(" joined");
        for (int thing = 0; x.joined(thing) >= 0; thing++) {
            made.append(' ').append(x.joined(thing));
        }
        for (int set = 0; x.weight(set) >= 0; set++) {
            made.append(" | ").append(x.weight(set));
            for (int row = 0; row < 4; row++) {
                made.append(' ').append(x.at(row, set));
            }
        }
        return made.toString();
    }

    /** The ground, acts, bytes and the fault. */
    static String state(PartSums x) {
        return ground(x) + " acts " + x.now(3) + " bytes " + x.now(4) + " fault " + x.fault();
    }

    /** An object with something of all: three things in a line, rows, acts, bytes, a fault, an image. */
    static PartSums busy() {
        PartSums x = with("things 3;set a 2;set b 3;set c 4;set ab 4;set bc 9;pair ab;pair bc;");
        x.image(0);
        fill(x, 0, 5, 6, 7, 8, 9, 10, 11, 12);
        fill(x, 1, 0, 1, 2, 3, 4, 5, 6, 7);
        fill(x, 2, 1, 1, 2, 3, 5, 8, 13, 21);
        fill(x, 3, 0, 0, 0, 0, 1_000_002, 0, 0, 2);
        x.undo();
        x.undo();
        tell(x, "things 0;");
        x.feed(1, 2, 3, 4, 5);
        return x;
    }

    /** A call answers NONE (or false, as -1) and leaves all as it was. */
    static void refused(String what, ToLongFunction<PartSums> call) {
        PartSums x = busy();
        String ahead = state(x);
        due(what, call.applyAsLong(x), -1);
        due("all stays with " + what, state(x), ahead);
    }

    /** A call answers NONE on an object that never had things, and on one that has them no more. */
    static void refusedWithoutThings(String what, ToLongFunction<PartSums> call) {
        PartSums fresh = new PartSums();
        due(what + " on a new object", call.applyAsLong(fresh), -1);
        due("all stays with " + what, state(fresh), state(new PartSums()));
        PartSums emptied = busy();
        emptied.end(0);
        emptied.text();
        String ahead = state(emptied);
        due(what + " behind an empty text", call.applyAsLong(emptied), -1);
        due("all stays with " + what, state(emptied), ahead);
    }

    /** Ends the test: exit code 1 if an answer was not as due. */
    static void finish() {
        endSentence();
        System.out.println((sentences > 0 ? sentences + " sentences, " : "") + made + " answers, " + wrong
            + " not as due");
        if (wrong != 0) {
            System.exit(1);
        }
    }
}
