import java.util.ArrayList;
import java.util.List;
import java.util.Random;

/** Long runs of calls of every kind, with numbers at their bounds and beside them: each answer against the Oracle's. */
public final class OracleTest {
    private static final Check C = new Check("OracleTest");
    private static final int RUNS = 700;
    private static final int MOST_FEEDS = 20;
    private static final int INT_MIN = Integer.MIN_VALUE;

    /** Instead of a least number: as many as count() of the number behind it tells. */
    private static final int COUNTED = -100;

    /** Of each call the least and the greatest of its numbers. */
    private static final Object[][] MAKING = {
        {"day", 0, 59, 0, 2, 0, 9}, {"boat", 0, 59, 0, 1, 0, 1439, 1, 24}, {"beast", 0, 59, 0, 23, 0, 1439, 0, 1439},
        {"log", 0, 59, 0, 23}, {"watcher", 0, 100}, {"pole", COUNTED, 3, 1, 99, 1, 200},
        {"sight", 0, 59, 0, 1439, 0, 23, COUNTED, 3, 0, 9, 1, 200, 0, 59}, {"story", 0, 100, 0, 20, 1, 60},
        {"sight", 0, 2, 0, 1439, 0, 23, COUNTED, 3, 0, 9, 1, 200, 2, 59},
        {"sweep", 0, 100, 1, 60, 0, 99, 0, 1}, {"kin", 0, 2, 0, 100}, {"kin", 1, 1, 0, 10000},
        {"offer", 0, 100, 1, 60, 0, 99, 1, 100}, {"year", 0, 29, 0, 1000, 0, 1000}, {"year", 0, 3, 1, 1000, 0, 1000},
        {"ripple", 0, 9, 1, 99, 1, 99}, {"run", COUNTED, 7, 1, 60, 0, 1000000}
    };
    private static final Object[][] ASKING = {
        {"of", COUNTED, 5, 0, 8}, {"of", COUNTED, 5, 7, 8}, {"there", COUNTED, 5}, {"odds", COUNTED, 5, 0, 4, 0, 1},
        {"odds", COUNTED, 5, 0, 4, 0, 1}, {"unknown", 0, 1, 0, 39}, {"span", COUNTED, 5, 0, 1}, {"most", 0, 4},
        {"likely", COUNTED, 7}, {"moved", COUNTED, 7, COUNTED, 8}, {"lot", 0, 60}, {"says", 0, 1023}, {"says", 0, 15},
        {"plan", 0, 1000}, {"plan", 0, 100}, {"more", 0, 29, 0, 29, 0, 1}, {"more", 0, 2, 0, 4, 0, 1}, {"grew", 0, 3}, {"picture", 0, 59, 0, 50, 0, 1}, {"world", 0, 2, -1, 11},
        {"count", 0, 14}, {"count", 11, 14}, {"status"}, {"cousins"}, {"fault"}
    };
    private static final Object[][] KEEPING = {{"image", 0, 1}, {"back", 0, 1}, {"row"}, {"law"}, {"end", 0, 400}};

    private final Random random;
    private final LakeWatch x = new LakeWatch();
    private final Oracle oracle = new Oracle();
    private final List<String> made = new ArrayList<>();
    private final int seed;
    private int calls = 0;
    private boolean isWrong = false;

    private OracleTest(int seed) {
        this.seed = seed;
        this.random = new Random(seed);
    }

    public static void main(String[] args) {
        for (int seed = 0; seed < RUNS; seed++) {
            new OracleTest(seed).run();
        }
        C.done();
    }

    /** Some runs are of few sorts of calls, so that they fill what there is room for. */
    private void run() {
        int sorts = seed % 4 == 0 ? 2 : MAKING.length;
        int first = random.nextInt(MAKING.length);
        call("watcher(100)");
        while (calls + MOST_FEEDS + 3 < Run.MOST_CALLS && !isWrong) {
            int kind = random.nextInt(100);
            if (kind < 6) {
                law();
            } else if (kind < 9) {
                row();
            } else if (kind < 13) {
                call(KEEPING[random.nextInt(KEEPING.length)]);
            } else if (kind < 55) {
                call(MAKING[(first + random.nextInt(sorts)) % MAKING.length]);
            } else {
                call(ASKING[random.nextInt(ASKING.length)]);
            }
        }
    }

    private void call(String text) {
        Call call = Call.of(text);
        int want = call.on(oracle);
        int got = call.on(x);
        calls++;
        made.add(text);
        C.due("seed " + seed + ", call " + calls + ", " + text, got, want);
        if (got != want) {
            isWrong = true;
            System.out.println("  behind " + made);
        }
    }

    private void call(Object[] row) {
        StringBuilder text = new StringBuilder().append(row[0]).append('(');
        for (int i = 1; i < row.length; i += 2) {
            int least = (Integer) row[i];
            int greatest = (Integer) row[i + 1];
            text.append(i == 1 ? "" : ", ").append(least == COUNTED ? counted(greatest) : number(least, greatest));
        }
        call(text.append(')').toString());
    }

    /** One that is there, or sometimes one that is not. */
    private int counted(int what) {
        int there = oracle.count(what);
        return random.nextInt(20) == 0 ? number(0, there) : random.nextInt(Math.max(1, there));
    }

    private int number(int least, int greatest) {
        int small = Math.min(greatest, least + random.nextInt(3));
        switch (random.nextInt(20)) {
            case 0: return least;
            case 1: return greatest;
            case 2: return random.nextInt(6) == 0 ? least - 1 : least;
            case 3: return random.nextInt(6) == 0 ? greatest + 1 : greatest;
            case 4: return random.nextInt(10) == 0 ? (random.nextBoolean() ? INT_MIN : Integer.MAX_VALUE) : greatest;
            case 5:
            case 6:
            case 7:
            case 8: return least + random.nextInt(greatest - least + 1);
            default: return seed % 3 == 0 ? least + random.nextInt(greatest - least + 1) : small;
        }
    }

    private void feed(List<String> calls) {
        call("end(0)");
        for (String call : calls) {
            call(call);
        }
    }

    private void row() {
        int[] bytes = new int[random.nextInt(60)];
        int[] greatest = {59, 143, 23, 11, 9, 200, 59};
        for (int i = 0; i < bytes.length; i++) {
            bytes[i] = number(i % 7 == 5 ? 1 : 0, greatest[i % 7]) & 255;
        }
        feed(Tapes.calls(bytes));
        call("row()");
    }

    private void law() {
        StringBuilder text = new StringBuilder();
        int clauses = random.nextInt(40) == 0 ? 11 + random.nextInt(4) : 1 + random.nextInt(5);
        for (int n = 0; n < clauses; n++) {
            text.append(n == 0 ? "" : ";").append(LawTexts.clause(random, clauses > 9 ? 0 : 2));
        }
        String whole = LawTexts.spaced(random, text.toString());
        if (random.nextInt(3) == 0) {
            whole = LawTexts.spoilt(random, whole);
        }
        feed(Tapes.calls(whole.substring(0, Math.min(400, whole.length()))));
        call("law()");
    }
}
