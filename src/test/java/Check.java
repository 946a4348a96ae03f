import java.nio.charset.StandardCharsets;
import java.util.NoSuchElementException;

/** Counts answers that are not as due, and tells texts to an object. */
final class Check {
    private static int wrong;
    private static int made;

    private Check() {
    }

    static void due(String what, long got, long want) {
        made++;
        if (got != want) {
            wrong++;
            if (wrong <= 40) {
                System.out.println(what + " answered " + got + ", due is " + want);
            }
        }
    }

    static void due(String what, boolean got, boolean want) {
        due(what, got ? 1 : 0, want ? 1 : 0);
    }

    /** part() as a number: -2 where it throws what the document names. */
    static int part(PartSums x, int set, int i) {
        try {
            return x.part(set, i);
        } catch (NoSuchElementException e) {
            return -2;
        }
    }

    /** Puts a text of at most 540 bytes on an empty tape. */
    static void tape(PartSums x, String text) {
        byte[] bytes = text.getBytes(StandardCharsets.ISO_8859_1);
        for (int from = 0; from < bytes.length; from += 20) {
            int[] five = new int[5];
            for (int i = 0; i < 20; i++) {
                int b = from + i < bytes.length ? bytes[from + i] & 255 : 0;
                five[i / 4] |= b << (24 - 8 * (i % 4));
            }
            x.feed(five[0], five[1], five[2], five[3], five[4]);
        }
        x.end(bytes.length);
    }

    static int tell(PartSums x, String text) {
        tape(x, text);
        return x.text();
    }

    static PartSums with(String text) {
        PartSums x = new PartSums();
        due("text() of " + text, tell(x, text) >= 0, true);
        return x;
    }

    /** Ends the test: exit code 1 if an answer was not as due. */
    static void finish() {
        System.out.println(made + " answers, " + wrong + " not as due");
        if (wrong != 0) {
            System.exit(1);
        }
    }
}
