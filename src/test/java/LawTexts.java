import java.util.Random;

/** Texts of laws, made up: sound ones, and ones with something wrong in them. */
final class LawTexts {
    static final String[] NAMES = {"humps", "length", "wind", "bend", "news", "gone", "place", "minute", "late"};
    static final String[] HEADS = {"wake", "beast", "log", "bent", "made", "grow"};
    private static final String[] BITS = {"wake", "beast", "log", "bent", "made", "grow", "if", "not", "and", "or", "(", ")",
        "[", "]", "<", ">", "=", "+", "-", "*", "/", ";", "humps", "length", "wind", "bend", "news", "gone", "place",
        "minute", "late", "0", "1", "100000", "100001", "x", "A", "\t", "\u00e9", "[[[[[[[[[", "(((((((((", "+1+1+1+1+1+1+1+1"};

    private LawTexts() {
    }

    static String clause(Random random, int depth) {
        String head = HEADS[random.nextInt(3) == 0 ? 4 : random.nextInt(6)];
        String sum = Model.sum(random, NAMES, depth).text();
        String test = random.nextBoolean() ? "" : " if " + Model.test(random, NAMES, depth).text();
        return head + " " + sum + test;
    }

    /** More blanks, or fewer where none is needed. */
    static String spaced(Random random, String text) {
        StringBuilder spaced = new StringBuilder();
        for (char sign : text.toCharArray()) {
            boolean isLetter = sign >= 'a' && sign <= 'z' || sign >= '0' && sign <= '9';
            if (!isLetter && random.nextInt(6) == 0) {
                spaced.append("  ", 0, random.nextInt(3));
            }
            spaced.append(sign);
            if (!isLetter && random.nextInt(6) == 0) {
                spaced.append("  ", 0, random.nextInt(3));
            }
        }
        return spaced.toString();
    }

    /** Something is put in, taken out or cut off. */
    static String spoilt(Random random, String text) {
        int at = random.nextInt(text.length() + 1);
        String bit = BITS[random.nextInt(BITS.length)];
        switch (random.nextInt(4)) {
            case 0: return text.substring(0, at);
            case 1: return text.substring(0, at) + text.substring(Math.min(text.length(), at + 1 + random.nextInt(3)));
            case 2: return text.substring(0, at) + " " + bit + " " + text.substring(at);
            default: return text.substring(0, at) + bit + text.substring(at);
        }
    }
}
