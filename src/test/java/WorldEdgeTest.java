/** Terms IV at their bounds: YEARS, RIPPLES and PICTURES, WORLDS and their DRAWS, ROWS of SIGHTS, IMAGES. */
public final class WorldEdgeTest {
    private static final Check C = new Check("WorldEdgeTest");
    private static final int NOTHING = -10000000;
    private static final int MODULUS = 1000003;

    public static void main(String[] args) {
        promise11RowBytes();
        promise11RowsEndWithin();
        promise11RowsWithoutRoom();
        promise12Cousins();
        promise30Years();
        promise31More();
        promise31BaseWithoutLookers();
        promise32Grew();
        promise33Ripples();
        promise34Pictures();
        promise35Run();
        lookingAtItsBounds();
        beastsAtTheirBounds();
        wakesAtTheirBounds();
        drawsThatAreNotMade();
        seedsAtTheirBounds();
        daysOfAWorld();
        promise36World();
        promise36ThereThen();
        C.done();
    }

    private static Run on(String... setup) {
        return new Run(C, setup);
    }

    /** A ROW of one SIGHT, behind one that is there; it comes, or it is a COUSIN's. */
    private static void row(int sights, int... bytes) {
        Run run = on("watcher(1)", "watcher(1)", "sight(0, 0, 0, 0, 0, 1, 0)").feed(bytes).due("row()", sights)
            .due("status()", 0).due("cousins()", 1 - sights).due("count(5)", 1 + sights).due("count(10)", 0)
            .dues("count(#)", 11, 0, 0, 0, 0);
        if (sights == 1) {
            run.dues("of(1, #)", 0, bytes[0], bytes[1] * 10, bytes[2], bytes[3], bytes[4], bytes[5], bytes[0] + bytes[6]);
        } else {
            run.due("of(1, 0)", -1);
        }
    }

    private static void promise11RowBytes() {
        on().refused("row()", -6);
        on("watcher(1)", "sight(0, 0, 0, 0, 0, 1, 0)").refused("row()", -6);
        row(1, 0, 0, 0, 0, 0, 1, 0);
        row(1, 59, 0, 0, 0, 0, 1, 0);
        row(0, 60, 0, 0, 0, 0, 1, 0);
        row(0, 255, 0, 0, 0, 0, 1, 0);
        row(1, 0, 143, 0, 0, 0, 1, 0);
        row(0, 0, 144, 0, 0, 0, 1, 0);
        row(0, 0, 255, 0, 0, 0, 1, 0);
        row(1, 0, 0, 23, 0, 0, 1, 0);
        row(0, 0, 0, 24, 0, 0, 1, 0);
        row(1, 0, 0, 0, 1, 0, 1, 0);
        row(0, 0, 0, 0, 2, 0, 1, 0);
        row(0, 0, 0, 0, 12, 0, 1, 0);
        row(0, 0, 0, 0, 255, 0, 1, 0);
        row(1, 0, 0, 0, 0, 9, 1, 0);
        row(0, 0, 0, 0, 0, 10, 1, 0);
        row(0, 0, 0, 0, 0, 0, 0, 0);
        row(1, 0, 0, 0, 0, 0, 200, 0);
        row(0, 0, 0, 0, 0, 0, 201, 0);
        row(1, 0, 0, 0, 0, 0, 1, 59);
        row(0, 0, 0, 0, 0, 0, 1, 60);
        row(0, 0, 0, 0, 0, 0, 1, 255);
        row(1, 30, 0, 0, 0, 0, 1, 29);
        row(0, 30, 0, 0, 0, 0, 1, 30);
        row(1, 58, 143, 23, 1, 9, 200, 1);
        row(0, 59, 143, 23, 1, 9, 200, 1);
        row(0, 255, 255, 255, 255, 255, 255, 255);
    }

    private static void promise11RowsEndWithin() {
        int[] rows = {1, 1, 1, 0, 1, 1, 1, 2, 2, 2, 0, 2, 2, 2, 3, 3, 3, 0, 3, 3, 3};
        for (int bytes = 1; bytes <= 21; bytes++) {
            Run run = on("watcher(1)").feed(java.util.Arrays.copyOf(rows, bytes));
            run.due("row()", bytes / 7).due("cousins()", bytes % 7 == 0 ? 0 : 1).due("count(5)", bytes / 7)
                .due("count(10)", 0).due("status()", 0);
            run.due("of(0, 4)", bytes < 7 ? -1 : 1).due("of(1, 4)", bytes < 14 ? -1 : 2).due("of(2, 4)", bytes < 21 ? -1 : 3);
        }
        // A COUSIN's bytes count on: the next SIGHT begins behind them.
        on("watcher(1)").feed(60, 1, 1, 0, 1, 1, 1, 2, 2, 2, 0, 2, 2, 2, 3, 3, 3, 1, 3, 3, 3, 4, 4, 4, 0, 4, 4, 4, 5)
            .due("row()", 2).due("cousins()", 3).dues("of(0, #)", 0, 2, 20, 2, 0, 2, 2, 4)
            .dues("of(1, #)", 0, 4, 40, 4, 0, 4, 4, 8).due("of(2, 0)", -1);
    }

    private static Run sights(int n) {
        Run run = on("watcher(1)");
        for (int i = 0; i < n; i++) {
            run.due("sight(0, 0, 0, 0, 0, 9, 0)", i);
        }
        return run;
    }

    private static void promise11RowsWithoutRoom() {
        int[] three = {1, 1, 1, 0, 1, 1, 1, 2, 2, 2, 0, 2, 2, 2, 3, 3, 3, 0, 3, 3, 3};
        int[] ahead = {37, 38, 39, 40};
        int[] came = {3, 2, 1, 0};
        for (int n = 0; n < 4; n++) {
            sights(ahead[n]).feed(three).due("row()", came[n]).due("cousins()", 3 - came[n]).due("status()", 0)
                .due("count(5)", ahead[n] + came[n]).dues("count(#)", 11, 0, 0, 0, 0).due("of(39, 4)", came[n])
                .due("of(40, 0)", -1);
        }
        int[] all = new int[400];
        for (int row = 0; row < 57; row++) {
            all[row * 7] = row % 50;
            all[row * 7 + 5] = row + 1;
        }
        Run run = on("watcher(1)").feed(all).due("row()", 40).due("cousins()", 18).due("count(5)", 40);
        for (int sight = 0; sight < 40; sight++) {
            run.due("of(" + sight + ", 5)", sight + 1);
        }
        run.refused("sight(0, 0, 0, 0, 0, 1, 0)", -5).due("cousins()", 18);
    }

    private static void promise12Cousins() {
        Run run = on("watcher(1)").due("cousins()", 0).refused("row()", -6).due("cousins()", 0);
        run.feed(1).due("row()", 0).due("cousins()", 1).refused("row()", -6).due("cousins()", 1);
        run.feed(0, 0, 0, 0, 0, 0, 0, 0, 0, 0, 0, 0, 0, 0, 0).due("row()", 0).due("cousins()", 3);
        run.feed(0, 0, 0, 0, 0, 1, 0).due("row()", 1).due("cousins()", 0);
        run.feed(9).due("row()", 0).due("image(0)", 0).feed(9, 0, 0, 0, 0, 0, 0, 0).due("row()", 0).due("cousins()", 2)
            .due("back(0)", 0).due("cousins()", 2);
    }

    private static void promise30Years() {
        Run.bounds(C, "year(#, 5, 6)", 0, 29);
        Run.bounds(C, "year(0, #, 6)", 0, 1000);
        Run.bounds(C, "year(0, 5, #)", 0, 1000);
        Run.bounds(C, "year(29, 1000, #)", 0, 1000);
        on("year(0, 1, 0)", "year(29, 1000, 1000)", "year(28, 0, 1000)").due("more(0, 29, 1)", 1000)
            .due("more(0, 28, 1)", 1000).due("more(29, 0, 0)", 1).due("more(29, 29, 0)", 1000);
        // A refused one leaves both numbers of its year.
        on("year(5, 10, 20)").refused("year(5, 30, 1001)", -1).refused("year(5, 1001, 40)", -1).due("more(5, 5, 0)", 20);
        Run each = on();
        for (int year = 0; year <= 29; year++) {
            each.due("year(" + year + ", " + (year + 1) + ", " + (100 - year) + ")", 0);
        }
        for (int year = 0; year <= 29; year++) {
            each.due("more(0, " + year + ", 0)", (year + 1) * 100).due("more(0, " + year + ", 1)", -year - (year + 1) * 100 + 100);
        }
    }

    private static void promise31More() {
        Run run = on("year(3, 7, 10)", "year(4, 5, 8)", "year(29, 1000, 1000)");
        run.due("more(3, 4, 0)", 7).due("more(3, 4, 1)", 1).due("more(4, 3, 0)", 11).due("more(4, 3, 1)", -1)
            .due("more(3, 3, 0)", 10).due("more(3, 3, 1)", 0).due("more(3, 0, 0)", 0).due("more(3, 0, 1)", 0)
            .due("more(3, 29, 0)", 1428).due("more(3, 29, 1)", -428);
        run.cannot("more(-1, 0, 0)", NOTHING).cannot("more(30, 0, 0)", NOTHING).cannot("more(3, -1, 0)", NOTHING)
            .cannot("more(3, 30, 0)", NOTHING).cannot("more(3, 0, -1)", NOTHING).cannot("more(3, 0, 2)", NOTHING)
            .cannot("more(2147483647, 0, 0)", NOTHING).cannot("more(3, -2147483648, 0)", NOTHING);
        on("year(0, 1, 1000)", "year(1, 1000, 0)").due("more(0, 1, 0)", 1000000).due("more(0, 1, 1)", -1000000);
    }

    private static void promise31BaseWithoutLookers() {
        Run run = on("year(0, 0, 5)", "year(1, 9, 9)", "year(2, 1, 0)");
        run.cannot("more(0, 1, 0)", NOTHING).cannot("more(0, 1, 1)", NOTHING).cannot("more(0, 0, 1)", NOTHING)
            .cannot("more(29, 1, 0)", NOTHING).cannot("grew(0)", -1).cannot("grew(29)", -1);
        run.due("more(1, 0, 0)", 0).due("more(1, 0, 1)", 5).due("grew(1)", 0).due("more(2, 1, 0)", 0).due("grew(2)", 1);
        run.due("year(1, 0, 9)", 0).cannot("more(1, 0, 0)", NOTHING).cannot("grew(1)", -1);
    }

    private static void promise32Grew() {
        on("year(5, 10, 5)").due("grew(5)", 0).cannot("grew(4)", -1).cannot("grew(30)", -1).cannot("grew(-1)", -1)
            .cannot("grew(2147483647)", -1);
        on("year(0, 10, 5)", "year(29, 0, 1)").due("grew(0)", 29);
        on("year(0, 10, 5)", "year(28, 2, 2)", "year(29, 2, 2)").due("grew(0)", 28);
        on("year(0, 10, 5)", "year(28, 2, 2)", "year(29, 2, 3)").due("grew(0)", 29);
        on("year(7, 10, 5)", "year(0, 10, 4)", "year(1, 10, 3)").due("grew(7)", 2);
        on("year(7, 10, 5)", "year(0, 3, 2)", "year(1, 4, 3)", "year(2, 2, 2)").due("grew(7)", 0);
        Run all = on();
        for (int year = 0; year <= 29; year++) {
            all.due("year(" + year + ", 10, " + (year % 10) + ")", 0);
        }
        all.due("grew(0)", 9).due("grew(29)", 9).due("year(9, 10, 0)", 0).due("grew(3)", 19);
    }

    private static void promise33Ripples() {
        Run.bounds(C, "ripple(#, 1, 1)", 0, 9);
        Run.bounds(C, "ripple(0, #, 99)", 1, 99);
        Run.bounds(C, "ripple(0, #, 50)", 1, 50);
        Run.bounds(C, "ripple(0, 1, #)", 1, 99);
        Run.bounds(C, "ripple(0, 50, #)", 50, 99);
        Run.bounds(C, "ripple(9, 99, #)", 99, 99);
        on("ripple(0, 5, 6)").refused("ripple(0, 7, 100)", -1).refused("ripple(0, 0, 9)", -1).refused("ripple(0, 8, 7)", -1)
            .due("picture(0, 1, 0)", 5).due("picture(0, 1, 1)", 12);
    }

    private static void promise34Pictures() {
        Run run = on("ripple(0, 1, 99)", "ripple(9, 99, 99)", "ripple(4, 3, 5)", "day(59, 0, 9)", "day(7, 0, 4)", "day(8, 0, 5)");
        run.due("picture(0, 0, 0)", 0).due("picture(0, 0, 1)", 99).due("picture(0, 50, 0)", 50).due("picture(0, 50, 1)", 5049)
            .due("picture(59, 0, 0)", 0).due("picture(59, 50, 0)", 4950).due("picture(59, 50, 1)", 5049)
            .due("picture(7, 1, 0)", 3).due("picture(7, 1, 1)", 10).due("picture(8, 9, 0)", 9).due("picture(8, 9, 1)", 10);
        run.cannot("picture(-1, 1, 0)", -1).cannot("picture(60, 1, 0)", -1).cannot("picture(7, -1, 0)", -1)
            .cannot("picture(7, -1, 1)", -1).cannot("picture(7, 51, 0)", -1).cannot("picture(7, 51, 1)", -1)
            .cannot("picture(7, 1, -1)", -1).cannot("picture(7, 1, 2)", -1).cannot("picture(7, 2147483647, 1)", -1);
    }

    private static void promise35Run() {
        for (int days : new int[] {1, 2, 59, 60}) {
            on("watcher(100)", "story(1, 1, 1)").due("run(0, " + days + ", 5)", days).due("status()", 0);
        }
        on("watcher(100)", "story(1, 1, 1)").due("run(0, 1, 0)", 1).due("run(0, 1, 1000000)", 1);
        Run run = on("watcher(100)", "story(1, 1, 1)", "story(1, 1, 5)");
        run.due("run(1, 60, 7)", 60);
        run.refused("run(0, 0, 5)", -1).refused("run(0, 61, 5)", -1).refused("run(0, -1, 5)", -1).refused("run(0, 5, -1)", -1)
            .refused("run(0, 5, 1000001)", -1).refused("run(2, 0, 5)", -1).refused("run(2, 5, -1)", -1)
            .refused("run(0, 2147483647, 5)", -1).refused("run(0, 5, -2147483648)", -1);
        run.refused("run(2, 5, 5)", -2).refused("run(5, 5, 5)", -2).refused("run(6, 5, 5)", -2).refused("run(-1, 5, 5)", -2);
        on().refused("run(0, 1, 0)", -2).refused("run(0, 61, 0)", -1);
        on("watcher(100)").refused("run(0, 1, 0)", -2).dues("world(#, -1)", 0, -1, -1, -1);
        on("story(1, 1, 1)").due("run(0, 60, 1000000)", 0).dues("world(#, -1)", 0, 0, 0, 0);
    }

    private static int next(int s) {
        return (int) ((s * 1103L + 12345) % MODULUS);
    }

    /** A SEED whose first DRAWS, of 100, 1000 and 10, are these; NONE stands for any. */
    private static int seedOf(int look, int beast, int wake) {
        for (int seed = 0; seed <= 1000000; seed++) {
            int first = next(seed);
            int second = next(first);
            int third = next(second);
            if (isSo(first % 100, look) && isSo(second % 1000, beast) && isSo(third % 10, wake)) {
                return seed;
            }
        }
        throw new IllegalStateException("no seed draws " + look + ", " + beast + ", " + wake);
    }

    private static boolean isSo(int drawn, int wanted) {
        return wanted == -1 || drawn == wanted;
    }

    /** A WORLD of one DAY with one WATCHER: how many looked. */
    private static void looks(int care, int news, int drawn, int want) {
        int seed = seedOf(drawn, -1, -1);
        on("watcher(" + care + ")", "story(1, 0, 1)").due("day(0, 2, " + news + ")", 0).due("run(0, 1, " + seed + ")", want)
            .due("world(2, 0)", want).due("world(2, -1)", want);
    }

    private static void lookingAtItsBounds() {
        looks(0, 0, 0, 0);
        looks(1, 0, 0, 1);
        looks(1, 0, 1, 0);
        looks(0, 1, 0, 1);
        looks(0, 1, 1, 0);
        looks(0, 9, 8, 1);
        looks(0, 9, 9, 0);
        looks(50, 0, 49, 1);
        looks(50, 0, 50, 0);
        looks(45, 5, 49, 1);
        looks(45, 5, 50, 0);
        looks(99, 0, 98, 1);
        looks(99, 0, 99, 0);
        looks(99, 1, 99, 1);
        looks(100, 0, 99, 1);
        looks(100, 9, 99, 1);
        looks(90, 9, 99, 0);
        looks(91, 9, 99, 1);
    }

    /** What one that looks sees: 0 the BEAST, 1 a WAKE, 2 NOTHING. */
    private static void sees(String story, String lake, int seed, int what) {
        on("watcher(100)", story, lake).due("run(0, 1, " + seed + ")", 1)
            .dues("world(#, 0)", 0, what == 0 ? 1 : 0, what == 1 ? 1 : 0, what == 2 ? 1 : 0)
            .dues("world(#, -1)", 0, what == 0 ? 1 : 0, what == 1 ? 1 : 0, what == 2 ? 1 : 0);
    }

    private static void beastsAtTheirBounds() {
        String still = "log(0, 0)";
        sees("story(1, 0, 60)", still, seedOf(-1, 0, -1), 2);
        sees("story(1, 1, 1)", still, seedOf(-1, 0, -1), 0);
        sees("story(1, 1, 1)", still, seedOf(-1, 1, -1), 2);
        sees("story(1, 7, 40)", still, seedOf(-1, 279, -1), 0);
        sees("story(1, 7, 40)", still, seedOf(-1, 280, -1), 2);
        sees("story(1, 19, 52)", still, seedOf(-1, 987, -1), 0);
        sees("story(1, 19, 52)", still, seedOf(-1, 988, -1), 2);
        sees("story(1, 20, 50)", still, seedOf(-1, 999, -1), 0);
        sees("story(1, 20, 60)", still, seedOf(-1, 999, -1), 0);
        sees("story(1, 20, 49)", still, seedOf(-1, 999, -1), 2);
        sees("story(0, 20, 60)", still, seedOf(-1, 999, -1), 0);
    }

    private static void wakesAtTheirBounds() {
        String none = "story(1, 0, 1)";
        for (int wind = 0; wind <= 9; wind++) {
            for (int drawn = 0; drawn <= 9; drawn++) {
                int seed = seedOf(-1, -1, drawn);
                int what = drawn > wind ? 1 : 2;
                on("watcher(100)", none, "boat(0, 1, 1439, 24)").due("day(0, 0, " + wind + ")", 0)
                    .due("run(0, 1, " + seed + ")", 1).due("world(1, 0)", what == 1 ? 1 : 0).due("world(2, 0)", what == 2 ? 1 : 0);
            }
        }
        int wake = seedOf(-1, 0, 9);
        sees(none, "boat(0, 0, 0, 1)", wake, 1);
        sees(none, "boat(1, 0, 0, 1)", wake, 2);
        sees(none, "boat(59, 0, 0, 1)", wake, 2);
        sees(none, "beast(0, 0, 0, 1439)", wake, 2);
        sees("story(1, 1, 1)", "boat(0, 0, 0, 1)", wake, 0);
    }

    /** Each DRAW that is made, and none that isn't, moves the next one: told by a second WATCHER. */
    private static void drawsThatAreNotMade() {
        for (int seed = 0; seed < 3000; seed += 100) {
            int first = next(seed);
            int second = next(first);
            int third = next(second);
            int fourth = next(third);
            // The first does not look: one DRAW.
            on("watcher(0)", "watcher(50)", "story(1, 0, 1)").due("run(0, 1, " + seed + ")", second % 100 < 50 ? 1 : 0);
            // It looks, and there is no BOAT, or it sees the BEAST: two.
            on("watcher(100)", "watcher(50)", "story(1, 0, 1)").due("run(0, 1, " + seed + ")", third % 100 < 50 ? 2 : 1);
            on("watcher(100)", "watcher(50)", "story(1, 20, 60)", "boat(0, 0, 0, 1)")
                .due("run(0, 1, " + seed + ")", third % 100 < 50 ? 2 : 1);
            // And with a BOAT: three.
            on("watcher(100)", "watcher(50)", "story(1, 0, 1)", "boat(0, 0, 0, 1)")
                .due("run(0, 1, " + seed + ")", fourth % 100 < 50 ? 2 : 1);
            // The next DAY goes on with the DRAWS of the one ahead.
            on("watcher(0)", "story(1, 0, 1)", "day(1, 2, 9)", "day(0, 2, 0)")
                .due("run(0, 2, " + seed + ")", second % 100 < 9 ? 1 : 0);
        }
    }

    private static void seedsAtTheirBounds() {
        // s is 12345 then, and 45 is drawn; from 1,000,000 on it is 9036, and 36 is drawn.
        on("watcher(45)", "story(1, 0, 1)").due("run(0, 1, 0)", 0);
        on("watcher(46)", "story(1, 0, 1)").due("run(0, 1, 0)", 1);
        on("watcher(36)", "story(1, 0, 1)").due("run(0, 1, 1000000)", 0);
        on("watcher(37)", "story(1, 0, 1)").due("run(0, 1, 1000000)", 1);
        // The second of SEED 0 is 13628880 modulo 1,000,003, which is 628841: 841 of 1000.
        on("watcher(100)", "story(1, 20, 42)").due("run(0, 1, 0)", 1).due("world(0, 0)", 0);
        on("watcher(100)", "story(1, 16, 53)").due("run(0, 1, 0)", 1).due("world(0, 0)", 1);
        // From one on that becomes 1,000,002, the greatest, and one that becomes 0.
        int greatest = seedBecoming(MODULUS - 1);
        on("watcher(2)", "story(1, 0, 1)").due("run(0, 1, " + greatest + ")", 0);
        on("watcher(3)", "story(1, 0, 1)").due("run(0, 1, " + greatest + ")", 1);
        int second = next(MODULUS - 1) % 1000;
        on("watcher(100)", "story(1, 1, 60)").due("run(0, 1, " + greatest + ")", 1).due("world(0, 0)", second < 60 ? 1 : 0);
        int least = seedBecoming(0);
        on("watcher(0)", "story(1, 0, 1)").due("run(0, 1, " + least + ")", 0);
        on("watcher(1)", "story(1, 0, 1)").due("run(0, 1, " + least + ")", 1);
    }

    private static int seedBecoming(int s) {
        for (int seed = 0; seed <= 1000000; seed++) {
            if (next(seed) == s) {
                return seed;
            }
        }
        throw new IllegalStateException("no seed becomes " + s);
    }

    /** DAYS 0 to n less 1: the last one's BOAT counts, the next one's does not. */
    private static void daysOfAWorld() {
        for (int days : new int[] {1, 2, 30, 59, 60}) {
            for (int seed = 0; seed < 10; seed++) {
                int s = seed;
                for (int n = 0; n < 2 * days; n++) {
                    s = next(s);
                }
                int wakes = next(s) % 10 > 0 ? 1 : 0;
                on("watcher(100)", "story(1, 0, 1)", "boat(" + (days - 1) + ", 0, 0, 1)")
                    .due("run(0, " + days + ", " + seed + ")", days).due("world(1, -1)", wakes).due("world(2, -1)", days - wakes);
                if (days < 60) {
                    on("watcher(100)", "story(1, 0, 1)", "boat(" + days + ", 0, 0, 1)")
                        .due("run(0, " + days + ", " + seed + ")", days).due("world(1, -1)", 0).due("world(2, -1)", days);
                }
            }
        }
    }

    private static void promise36World() {
        Run run = on("watcher(100)", "story(1, 20, 60)");
        run.cannot("world(0, -1)", -1).cannot("world(0, 0)", -1).cannot("world(2, 0)", -1);
        run.due("run(0, 60, 1)", 60).dues("world(0, #)", -2, -1, 60, 60, -1).dues("world(1, #)", -2, -1, 0, 0, -1)
            .dues("world(2, #)", -2, -1, 0, 0, -1).dues("world(#, -1)", -1, -1, 60, 0, 0, -1);
        run.cannot("world(-1, -1)", -1).cannot("world(3, 0)", -1).cannot("world(0, -2)", -1).cannot("world(0, 1)", -1)
            .cannot("world(0, 12)", -1).cannot("world(0, 2147483647)", -1).cannot("world(0, -2147483648)", -1);
        Run twelve = on("story(1, 20, 60)");
        for (int n = 0; n < 12; n++) {
            twelve.due("watcher(" + (n % 2 == 0 ? 100 : 0) + ")", n);
        }
        twelve.due("run(0, 60, 9)", 360).dues("world(0, #)", -1, 360, 60, 0, 60, 0, 60, 0, 60, 0, 60, 0, 60, 0, -1);
    }

    private static void promise36ThereThen() {
        Run run = on("image(0)", "watcher(100)", "story(1, 20, 60)", "watcher(0)");
        run.due("run(0, 7, 1)", 7).due("watcher(5)", 2).dues("world(0, #)", -1, 7, 7, 0, -1);
        run.due("back(0)", 0).due("count(3)", 0).dues("world(0, #)", -1, 7, 7, 0, -1);
        run.refused("run(0, 7, 1)", -2).dues("world(0, #)", -1, 7, 7, 0, -1);
        run.due("story(1, 1, 1)", 0).due("run(0, 5, 1)", 0).dues("world(0, #)", -1, 0, -1, -1);
        run.due("watcher(100)", 0).dues("world(2, #)", -1, 0, -1).due("run(0, 2, 1)", 2).due("run(0, 1, 1)", 1)
            .due("world(0, -1)", 0).due("world(2, -1)", 1).due("world(2, 0)", 1);
    }
}
