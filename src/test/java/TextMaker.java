import java.util.Random;

/** Makes texts, right ones and ones with something amiss. */
final class TextMaker {
    private TextMaker() {
    }

    static String makeRight(Random random) {
        int things = random.nextInt(3) == 0 ? 1 + random.nextInt(8) : 5 + random.nextInt(4);
        StringBuilder made = new StringBuilder("things").append(gap(random)).append(things).append(loose(random));
        made.append(";");
        boolean[] told = new boolean[1 << things];
        boolean[] paired = new boolean[1 << things];
        int lines = random.nextInt(45);
        for (int i = 0; i < lines && made.length() < 470; i++) {
            boolean pair = random.nextBoolean();
            int set = 1 + random.nextInt(told.length - 1);
            boolean[] seen = pair ? paired : told;
            if (seen[set] || pair && Integer.bitCount(set) != 2) {
                continue;
            }
            seen[set] = true;
            made.append(loose(random)).append(pair ? "pair" : "set").append(gap(random));
            made.append(word(set, random));
            if (!pair && random.nextInt(3) != 0) {
                made.append(gap(random)).append(1 + random.nextInt(random.nextBoolean() ? 9 : 999));
            }
            made.append(loose(random)).append(";");
        }
        return made.append(loose(random)).toString();
    }

    static String make(Random random) {
        StringBuilder made = new StringBuilder(makeRight(random));
        if (random.nextInt(4) == 0) {
            stretch(made, random);
        }
        String[] bits = {"set", "pair", "things", ";", " ", "\n", "a", "b", "z", "0", "00", "000", "1000", "12", "a1",
            "1a", "A", "\t", "\u00e9", "\u0000", "ab", "ba", "aa", ",", "-1", "{", "/", ":", "`", "set ab;", "pair ab;"};
        for (int i = random.nextInt(3); i > 0 && made.length() > 0; i--) {
            int at = random.nextInt(made.length());
            int to = Math.min(made.length(), at + random.nextInt(3));
            switch (random.nextInt(3)) {
                case 0: made.insert(at, bits[random.nextInt(bits.length)]); break;
                case 1: made.delete(at, to); break;
                default: made.replace(at, to, bits[random.nextInt(bits.length)]);
            }
        }
        if (random.nextInt(6) == 0) {
            made.setLength(random.nextInt(made.length() + 1));
        }
        made.setLength(Math.min(made.length(), 540));
        return made.toString();
    }

    /** Makes a text nearly as long as the limit, or longer, with lines or parts of lines about it. */
    private static void stretch(StringBuilder made, Random random) {
        int want = 485 + random.nextInt(20);
        int at = made.indexOf(";") + 1;
        while (made.length() < want) {
            made.insert(at, ' ');
        }
        String[] tails = {"set ab;", "set ab", "pair ab;", "set abcdefgh 12;", "set a 1234", ";", "pair", "\n\n\n\n",
            "set a 000;", "things 3;", "set aa;", "x"};
        for (int i = random.nextInt(5); i > 0; i--) {
            made.append(tails[random.nextInt(tails.length)]);
        }
    }

    private static String word(int set, Random random) {
        StringBuilder letters = new StringBuilder();
        for (int t = 0; t < 8; t++) {
            if ((set >> t & 1) == 1) {
                letters.insert(random.nextInt(letters.length() + 1), (char) ('a' + t));
            }
        }
        return letters.toString();
    }

    private static String gap(Random random) {
        return random.nextInt(5) == 0 ? " \n " : random.nextBoolean() ? " " : "\n";
    }

    private static String loose(Random random) {
        return random.nextInt(4) == 0 ? gap(random) : "";
    }
}
