import java.util.ArrayList;
import java.util.List;
import java.util.Random;

/** Any arguments in any state: no call throws or fails to end, and the same calls give the same answers. */
public final class AnyCallTest {
    private static final Check C = new Check("AnyCallTest");
    private static final int CALLS = 39;
    private static final int MOST_CALLS_OF_A_TEXT = 23;
    private static final String[] TOKENS = {"wake", "beast", "log", "bent", "made", "grow", "if", "not", "and", "or", "(",
        ")", "[", "]", "<", ">", "=", "+", "-", "*", "/", ";", "humps", "length", "wind", "bend", "news", "gone", "place",
        "minute", "late", "0", "1", "7", "100000", "100001", " ", "x", "\u00e9"};

    public static void main(String[] args) {
        for (int seed = 0; seed < 300; seed++) {
            List<Integer> first = answers(seed);
            List<Integer> second = answers(seed);
            for (int i = 0; i < first.size(); i++) {
                C.due("seed " + seed + ", answer " + i, second.get(i), first.get(i));
            }
        }
        C.done();
    }

    /** Of one object, which is used for so many calls as it may be, and for no more. */
    private static List<Integer> answers(int seed) {
        Random random = new Random(seed);
        LakeWatch x = new LakeWatch();
        List<Integer> answers = new ArrayList<>();
        int left = Run.MOST_CALLS;
        while (left > 0) {
            boolean isText = left > MOST_CALLS_OF_A_TEXT && random.nextInt(8) == 0;
            left -= isText ? text(x, random, answers) : 1;
            if (!isText) {
                answers.add(call(x, random, seed % 3 == 0));
            }
        }
        return answers;
    }

    /** How many calls it took. */
    private static int text(LakeWatch x, Random random, List<Integer> answers) {
        StringBuilder text = new StringBuilder();
        for (int n = random.nextInt(90); n > 0; n--) {
            text.append(TOKENS[random.nextInt(TOKENS.length)]).append(random.nextBoolean() ? " " : "");
        }
        String cut = text.substring(0, Math.min(400, text.length()));
        x.end(0);
        Tapes.put(x, cut);
        answers.add(x.law());
        return 1 + Tapes.calls(cut).size() + 1;
    }

    private static int number(Random random, boolean wild) {
        int[] edges = {-1, 0, 1, 2, 5, 11, 12, 20, 23, 24, 39, 40, 59, 60, 99, 100, 200, 400, 1000, 1439, 1440, 1000000,
            Integer.MAX_VALUE, Integer.MIN_VALUE, Integer.MIN_VALUE + 1, 1 << 30, 1023, 1024};
        int kind = random.nextInt(wild ? 3 : 8);
        if (kind == 0) {
            return edges[random.nextInt(edges.length)];
        }
        return kind == 1 ? random.nextInt(101) : wild && kind == 2 ? random.nextInt() : random.nextInt(3);
    }

    private static int call(LakeWatch x, Random random, boolean wild) {
        int a = number(random, wild);
        int b = number(random, wild);
        int c = number(random, wild);
        int d = number(random, wild);
        int e = number(random, wild);
        int f = number(random, wild);
        int g = number(random, wild);
        int which = random.nextInt(CALLS);
        return which < 13 ? made(x, which, new int[] {a, b, c, d, e, f, g})
            : which < 26 ? asked(x, which, a, b, c) : last(x, which, a, b, c, d);
    }

    private static int made(LakeWatch x, int which, int[] n) {
        switch (which) {
            case 0: return x.day(n[0], n[1], n[2]);
            case 1: return x.boat(n[0], n[1], n[2], n[3]);
            case 2: return x.beast(n[0], n[1], n[2], n[3]);
            case 3: return x.log(n[0], n[1]);
            case 4: return x.watcher(n[0]);
            case 5: return x.pole(n[0], n[1], n[2]);
            case 6: return x.sight(n[0], n[1], n[2], n[3], n[4], n[5], n[6]);
            case 7: return x.feed(n[0], n[1], n[2], n[3], n[4]);
            case 8: return x.end(n[0]);
            case 9: return x.row();
            case 10: return x.cousins();
            case 11: return x.law();
            default: return x.fault();
        }
    }

    private static int asked(LakeWatch x, int which, int a, int b, int c) {
        switch (which) {
            case 13: return x.of(a, b);
            case 14: return x.there(a);
            case 15: return x.odds(a, b, c);
            case 16: return x.unknown(a, b);
            case 17: return x.span(a, b);
            case 18: return x.most(a);
            case 19: return x.likely(a);
            case 20: return x.moved(a, b);
            case 21: return x.lot(a);
            case 22: return x.says(a);
            case 23: return x.plan(a);
            case 24: return x.more(a, b, c);
            default: return x.grew(a);
        }
    }

    private static int last(LakeWatch x, int which, int a, int b, int c, int d) {
        switch (which) {
            case 26: return x.story(a, b, c);
            case 27: return x.sweep(a, b, c, d);
            case 28: return x.kin(a, b);
            case 29: return x.offer(a, b, c, d);
            case 30: return x.year(a, b, c);
            case 31: return x.ripple(a, b, c);
            case 32: return x.picture(a, b, c);
            case 33: return x.run(a, b, c);
            case 34: return x.world(a, b);
            case 35: return x.image(a);
            case 36: return x.back(a);
            case 37: return x.count(a);
            default: return x.status();
        }
    }
}
