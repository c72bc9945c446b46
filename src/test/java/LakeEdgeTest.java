/** Terms I at their bounds: what is on the lake, how much of it there may be, and what a call is REFUSED by first. */
public final class LakeEdgeTest {
    private static final Check C = new Check("LakeEdgeTest");
    private static final String[] WATCHED = {"watcher(5)"};

    public static void main(String[] args) {
        promise1NothingIsThere();
        promise2Days();
        promise3Boats();
        promise4Beasts();
        promise5Logs();
        promise6Watchers();
        promise7Poles();
        promise8Sights();
        promise8SightsHaveWhatTheyWereGiven();
        rooms();
        theFirstReason();
        minutesBehindTheDay();
        theLatestBoat();
        beastsBesideAPlace();
        logsAtAPlace();
        bentAirOfADay();
        C.done();
    }

    private static Run on(String... setup) {
        return new Run(C, setup);
    }

    private static void promise1NothingIsThere() {
        on().dues("count(#)", 0, 0, 0, 0, 0, 0, 0, 0, 0, 0, 0, 0, 0, 0, 0, 0)
            .due("status()", 0).due("fault()", -1).due("cousins()", 0).due("unknown(0, 0)", 0)
            .dues("most(#)", 0, 0, 0, 0, 0, 0).due("lot(0)", 0).due("says(0)", 0).due("plan(1000)", 0)
            .dues("world(#, -1)", 0, -1, -1, -1).dues("grew(#)", 0, -1, -1).due("likely(0)", -1)
            .due("kin(0, 0)", 2).due("kin(1, 0)", 100).due("kin(2, 1)", 1);
        for (int wind = 0; wind <= 9; wind++) {
            on("day(0, 0, " + wind + ")").due("picture(0, 50, 0)", 50).due("picture(0, 50, 1)", 51);
        }
        Run days = on();
        for (int what = 0; what <= 2; what++) {
            for (int day = 0; day <= 59; day++) {
                days.due("day(" + day + ", " + what + ", 9)", 0);
            }
        }
        on().due("watcher(1)", 0).due("sight(0, 0, 0, 0, 0, 1, 0)", 0).due("of(0, 8)", 100).due("odds(0, 4, 0)", -1);
    }

    private static void promise2Days() {
        Run.bounds(C, "day(#, 0, 5)", 0, 59);
        Run.bounds(C, "day(#, 2, 0)", 0, 59);
        Run.bounds(C, "day(0, #, 5)", 0, 2);
        Run.bounds(C, "day(59, #, 0)", 0, 2);
        for (int what = 0; what <= 2; what++) {
            Run.bounds(C, "day(0, " + what + ", #)", 0, 9);
            Run.bounds(C, "day(59, " + what + ", #)", 0, 9);
        }
        Run each = on();
        for (int day = 0; day <= 59; day++) {
            for (int what = 0; what <= 2; what++) {
                each.due("day(" + day + ", " + what + ", " + (day * 3 + what * 5) % 10 + ")", 0);
            }
        }
        for (int day = 0; day <= 59; day++) {
            for (int what = 0; what <= 2; what++) {
                each.due("day(" + day + ", " + what + ", 0)", (day * 3 + what * 5) % 10);
            }
        }
    }

    private static void promise3Boats() {
        Run.bounds(C, "boat(#, 0, 0, 1)", 0, 59);
        Run.bounds(C, "boat(0, #, 0, 1)", 0, 1);
        Run.bounds(C, "boat(0, 0, #, 1)", 0, 1439);
        Run.bounds(C, "boat(0, 0, 0, #)", 1, 24);
        Run.bounds(C, "boat(59, 1, 1439, #)", 1, 24);
        // An earlier boat tells a minute apart from none: without the later one gone would be greater.
        on("watcher(1)", "boat(59, 0, 0, 1)", "boat(59, 1, 1439, 24)").due("sight(59, 1439, 23, 0, 0, 1, 59)", 0)
            .due("of(0, 7)", 0);
        on("watcher(1)", "boat(0, 0, 0, 24)").due("sight(0, 553, 23, 0, 0, 1, 0)", 0).due("of(0, 7)", 1)
            .due("sight(0, 1, 0, 0, 0, 1, 0)", 1).due("of(1, 7)", 1);
        on("watcher(1)", "boat(0, 1, 0, 1)").due("sight(0, 24, 0, 0, 0, 1, 0)", 0).due("of(0, 7)", 1)
            .due("sight(0, 1439, 23, 0, 0, 1, 0)", 1).due("of(1, 7)", 1439);
    }

    private static void promise4Beasts() {
        Run.bounds(C, "beast(#, 0, 0, 0)", 0, 59);
        Run.bounds(C, "beast(0, #, 0, 0)", 0, 23);
        Run.bounds(C, "beast(0, 0, #, 1439)", 0, 1439);
        Run.bounds(C, "beast(0, 0, #, 700)", 0, 700);
        Run.bounds(C, "beast(0, 0, 0, #)", 0, 1439);
        Run.bounds(C, "beast(0, 0, 700, #)", 700, 1439);
        Run.bounds(C, "beast(0, 0, 1439, #)", 1439, 1439);
        on().refused("beast(0, 0, 1440, 1440)", -1).refused("beast(0, 0, -1, -1)", -1);
    }

    private static void promise5Logs() {
        Run.bounds(C, "log(#, 0)", 0, 59);
        Run.bounds(C, "log(0, #)", 0, 23);
    }

    private static void promise6Watchers() {
        Run.bounds(C, "watcher(#)", 0, 100);
    }

    private static void promise7Poles() {
        Run.bounds(C, "pole(0, #, 1)", 1, 99, WATCHED);
        Run.bounds(C, "pole(0, 1, #)", 1, 200, WATCHED);
        on(WATCHED).refused("pole(1, 1, 1)", -2).refused("pole(11, 1, 1)", -2).refused("pole(12, 1, 1)", -2)
            .refused("pole(-1, 1, 1)", -2).refused("pole(2147483647, 1, 1)", -2).due("pole(0, 1, 1)", 0);
        on().refused("pole(0, 1, 1)", -2);
        Run all = watchers(12);
        all.due("pole(11, 1, 1)", 0).due("pole(0, 1, 1)", 1);
        on("watcher(0)", "pole(0, 99, 1)").due("sight(0, 0, 0, 0, 0, 200, 0)", 0).dues("span(0, #)", 0, 19800, 19800);
        on("watcher(0)", "pole(0, 1, 200)").due("sight(0, 0, 0, 0, 0, 200, 0)", 0).dues("span(0, #)", 0, 1, 1);
    }

    private static void promise8Sights() {
        Run.bounds(C, "sight(#, 0, 0, 0, 0, 1, 59)", 0, 59, WATCHED);
        Run.bounds(C, "sight(#, 0, 0, 0, 0, 1, 30)", 0, 30, WATCHED);
        Run.bounds(C, "sight(0, #, 0, 0, 0, 1, 0)", 0, 1439, WATCHED);
        Run.bounds(C, "sight(0, 0, #, 0, 0, 1, 0)", 0, 23, WATCHED);
        Run.bounds(C, "sight(0, 0, 0, 0, #, 1, 0)", 0, 9, WATCHED);
        Run.bounds(C, "sight(0, 0, 0, 0, 0, #, 0)", 1, 200, WATCHED);
        Run.bounds(C, "sight(0, 0, 0, 0, 0, 1, #)", 0, 59, WATCHED);
        Run.bounds(C, "sight(30, 0, 0, 0, 0, 1, #)", 30, 59, WATCHED);
        Run.bounds(C, "sight(59, 0, 0, 0, 0, 1, #)", 59, 59, WATCHED);
        on(WATCHED).refused("sight(60, 0, 0, 0, 0, 1, 60)", -1).refused("sight(-1, 0, 0, 0, 0, 1, -1)", -1);
        on(WATCHED).refused("sight(0, 0, 0, 1, 0, 1, 0)", -2).refused("sight(0, 0, 0, 11, 0, 1, 0)", -2)
            .refused("sight(0, 0, 0, 12, 0, 1, 0)", -2).refused("sight(0, 0, 0, -1, 0, 1, 0)", -2);
        on().refused("sight(0, 0, 0, 0, 0, 1, 0)", -2);
        watchers(12).due("sight(0, 0, 0, 11, 0, 1, 0)", 0).due("of(0, 3)", 11);
    }

    private static void promise8SightsHaveWhatTheyWereGiven() {
        Run run = on("watcher(1)", "watcher(1)");
        run.due("sight(0, 0, 0, 0, 0, 1, 0)", 0).due("sight(59, 1439, 23, 1, 9, 200, 59)", 1)
            .due("sight(0, 1439, 0, 1, 0, 200, 59)", 2);
        run.dues("of(0, #)", -1, -1, 0, 0, 0, 0, 0, 1, 0, 0, 100, -1);
        run.dues("of(1, #)", -1, -1, 59, 1439, 23, 1, 9, 200, 59, 0, 100, -1);
        run.dues("of(2, #)", -1, -1, 0, 1439, 0, 1, 0, 200, 59, 0, 100, -1);
    }

    private static Run watchers(int n) {
        Run run = on();
        for (int i = 0; i < n; i++) {
            run.due("watcher(" + i * 9 + ")", i);
        }
        return run;
    }

    /** Takes as many as there may be, and then no more. */
    private static Run full(Run run, String call, int most, int count) {
        for (int n = 0; n < most; n++) {
            run.due(call, n);
        }
        return run.due("count(" + count + ")", most).refused(call, -5).due("count(" + count + ")", most);
    }

    private static void rooms() {
        full(on(), "boat(7, 1, 700, 9)", 12, 0);
        full(on(), "beast(7, 1, 700, 900)", 12, 1);
        full(on(), "log(7, 1)", 12, 2);
        full(on(), "watcher(7)", 12, 3);
        full(on(WATCHED), "pole(0, 7, 9)", 20, 4);
        full(on(WATCHED), "sight(7, 700, 1, 0, 7, 9, 8)", 40, 5).due("of(39, 5)", 9).due("of(40, 5)", -1);
        full(on(), "story(7, 2, 9)", 6, 7).due("likely(5)", 166666).due("likely(6)", -1);
        full(on("story(1, 1, 1)"), "sweep(50, 1, 2, 1)", 12, 8).due("moved(0, 11)", 0).due("moved(0, 12)", -10000000);
        full(on(), "offer(50, 1, 2, 7)", 10, 9).due("says(1023)", 0).due("says(1024)", -1);
        theLastOneCounts();
    }

    /** The last one for which there is room is looked at as the first is. */
    private static void theLastOneCounts() {
        Run boats = on(WATCHED);
        Run beasts = on(WATCHED);
        Run logs = on(WATCHED);
        for (int n = 0; n < 11; n++) {
            boats.due("boat(9, 0, 0, 1)", n);
            beasts.due("beast(9, 0, 0, 0)", n);
            logs.due("log(9, 0)", n);
        }
        boats.due("boat(7, 0, 100, 1)", 11).due("sight(7, 110, 5, 0, 0, 1, 7)", 0).due("of(0, 7)", 5);
        beasts.due("beast(7, 5, 110, 110)", 11).due("sight(7, 110, 5, 0, 0, 1, 7)", 0).due("there(0)", 18);
        logs.due("log(7, 5)", 11).due("sight(7, 110, 5, 0, 0, 1, 7)", 0).due("there(0)", 20);
        Run poles = on(WATCHED);
        for (int n = 0; n < 19; n++) {
            poles.due("pole(0, 5, 5)", n);
        }
        poles.due("sight(0, 0, 0, 0, 0, 10, 0)", 0).dues("span(0, #)", 0, 10, 10).due("pole(0, 5, 1)", 19)
            .dues("span(0, #)", 0, 10, 50);
    }

    private static String[] repeated(int most, String call, String... ahead) {
        String[] calls = new String[ahead.length + most];
        System.arraycopy(ahead, 0, calls, 0, ahead.length);
        java.util.Arrays.fill(calls, ahead.length, calls.length, call);
        return calls;
    }

    /** What could be REFUSED by two reasons tells the first of -1, -2, -5. */
    private static void theFirstReason() {
        on(repeated(12, "boat(0, 0, 0, 1)")).refused("boat(60, 0, 0, 1)", -1).refused("boat(0, 2, 0, 1)", -1)
            .refused("boat(0, 0, 1440, 1)", -1).refused("boat(0, 0, 0, 0)", -1).refused("boat(0, 0, 0, 1)", -5);
        on(repeated(12, "beast(0, 0, 0, 0)")).refused("beast(-1, 0, 0, 0)", -1).refused("beast(0, 24, 0, 0)", -1)
            .refused("beast(0, 0, 1, 0)", -1).refused("beast(0, 0, 0, 0)", -5);
        on(repeated(12, "log(0, 0)")).refused("log(60, 0)", -1).refused("log(0, 24)", -1).refused("log(0, 0)", -5);
        on(repeated(12, "watcher(0)")).refused("watcher(101)", -1).refused("watcher(-1)", -1).refused("watcher(0)", -5);
        on(WATCHED).refused("pole(1, 0, 1)", -1).refused("pole(1, 1, 201)", -1).refused("pole(1, 1, 1)", -2);
        on(repeated(20, "pole(0, 1, 1)", "watcher(1)")).refused("pole(1, 100, 1)", -1).refused("pole(0, 1, 0)", -1)
            .refused("pole(1, 1, 1)", -2).refused("pole(0, 1, 1)", -5);
        on(WATCHED).refused("sight(0, 0, 0, 1, 10, 1, 0)", -1).refused("sight(5, 0, 0, 1, 0, 1, 4)", -1)
            .refused("sight(0, 0, 0, 1, 0, 1, 60)", -1).refused("sight(5, 0, 0, 1, 0, 1, 5)", -2);
        on(repeated(40, "sight(0, 0, 0, 0, 0, 1, 0)", "watcher(1)")).refused("sight(0, 1440, 0, 1, 0, 1, 0)", -1)
            .refused("sight(5, 0, 0, 0, 0, 1, 4)", -1).refused("sight(0, 0, 0, 1, 0, 1, 0)", -2)
            .refused("sight(0, 0, 0, 0, 0, 1, 0)", -5);
        on(repeated(6, "story(1, 1, 1)")).refused("story(101, 1, 1)", -1).refused("story(1, 21, 1)", -1)
            .refused("story(1, 1, 0)", -1).refused("story(1, 1, 1)", -5);
        on(repeated(12, "sweep(1, 1, 1, 1)")).refused("sweep(101, 1, 1, 1)", -1).refused("sweep(1, 0, 1, 1)", -1)
            .refused("sweep(1, 1, 100, 1)", -1).refused("sweep(1, 1, 1, 2)", -1).refused("sweep(1, 1, 1, 1)", -5);
        on(repeated(10, "offer(1, 1, 1, 1)")).refused("offer(101, 1, 1, 1)", -1).refused("offer(1, 61, 1, 1)", -1)
            .refused("offer(1, 1, 100, 1)", -1).refused("offer(1, 1, 1, 0)", -1).refused("offer(1, 1, 1, 1)", -5);
        on("story(1, 1, 1)").refused("run(1, 0, 0)", -1).refused("run(1, 1, 1000001)", -1).refused("run(1, 1, 0)", -2);
        on().refused("back(2)", -1).refused("back(-1)", -1).refused("back(0)", -2).refused("back(1)", -2);
    }

    private static void minutesBehindTheDay() {
        // At place 1 in minute 1440: of no day, neither in minute 0 of this one nor of the next.
        Run run = on("watcher(1)", "boat(0, 0, 1439, 1)", "boat(59, 0, 1439, 1)", "boat(3, 1, 1400, 24)");
        run.due("sight(0, 5, 1, 0, 0, 1, 0)", 0).due("of(0, 7)", 0).due("there(0)", 16);
        run.due("sight(1, 5, 1, 0, 0, 1, 1)", 1).due("of(1, 7)", 0).due("there(1)", 16);
        run.due("sight(0, 1439, 1, 0, 0, 1, 0)", 2).due("of(2, 7)", 0);
        run.due("sight(4, 30, 20, 0, 0, 1, 4)", 3).due("of(3, 7)", 0);
        run.due("sight(3, 1439, 22, 0, 0, 1, 3)", 4).due("of(4, 7)", 15).due("there(4)", 17);
        run.due("sight(3, 1439, 21, 0, 0, 1, 3)", 5).due("of(5, 7)", 0);
        Run last = on("watcher(1)", "boat(0, 0, 0, 1)", "boat(0, 0, 1438, 1)");
        last.due("sight(0, 1439, 1, 0, 0, 1, 0)", 0).due("of(0, 7)", 0);
        last.due("sight(0, 1438, 1, 0, 0, 1, 0)", 1).due("of(1, 7)", 1437);
        last.due("sight(0, 1439, 2, 0, 0, 1, 0)", 2).due("of(2, 7)", 1437);
    }

    private static void theLatestBoat() {
        String[] early = {"watcher(1)", "boat(0, 0, 100, 1)", "boat(0, 0, 150, 1)"};
        String[] late = {"watcher(1)", "boat(0, 0, 150, 1)", "boat(0, 0, 100, 1)"};
        for (String[] order : new String[][] {early, late}) {
            Run run = on(order);
            run.due("sight(0, 99, 0, 0, 0, 1, 0)", 0).due("of(0, 7)", 0).due("there(0)", 16);
            run.due("sight(0, 100, 0, 0, 0, 1, 0)", 1).due("of(1, 7)", 0).due("there(1)", 16);
            run.due("sight(0, 101, 0, 0, 0, 1, 0)", 2).due("of(2, 7)", 1).due("there(2)", 17);
            run.due("sight(0, 149, 0, 0, 0, 1, 0)", 3).due("of(3, 7)", 49).due("there(3)", 17);
            run.due("sight(0, 150, 0, 0, 0, 1, 0)", 4).due("of(4, 7)", 0).due("there(4)", 16);
            run.due("sight(0, 210, 0, 0, 0, 1, 0)", 5).due("of(5, 7)", 60).due("there(5)", 17);
            run.due("sight(0, 211, 0, 0, 0, 1, 0)", 6).due("of(6, 7)", 61).due("there(6)", 16);
            run.due("sight(1, 101, 0, 0, 0, 1, 1)", 7).due("of(7, 7)", 0).due("there(7)", 16);
        }
        // It went by in minute 0, and a boat that left later was there earlier.
        on("watcher(1)", "boat(0, 0, 0, 1)").due("sight(0, 1439, 0, 0, 0, 1, 0)", 0).due("of(0, 7)", 1439)
            .due("sight(0, 0, 0, 0, 0, 1, 0)", 1).due("of(1, 7)", 0).due("there(1)", 16);
        on("watcher(1)", "boat(0, 0, 0, 24)", "boat(0, 0, 10, 1)").due("sight(0, 500, 20, 0, 0, 1, 0)", 0)
            .due("of(0, 7)", 20).due("sight(0, 40, 20, 0, 0, 1, 0)", 1).due("of(1, 7)", 10);
        on("watcher(1)", "boat(0, 1, 0, 2)", "boat(0, 0, 0, 2)").due("sight(0, 100, 5, 0, 0, 1, 0)", 0)
            .due("of(0, 7)", 64).due("sight(0, 100, 18, 0, 0, 1, 0)", 1).due("of(1, 7)", 64);
    }

    private static void there(Run run, int sight, String call, int want) {
        run.due(call, sight).due("there(" + sight + ")", want);
    }

    private static void beastsBesideAPlace() {
        Run run = on("watcher(1)", "beast(1, 0, 0, 0)", "beast(2, 23, 1439, 1439)", "beast(3, 10, 200, 300)");
        int[][] spots = {
            {1, 0, 0, 18}, {1, 0, 1, 18}, {1, 0, 2, 16}, {1, 0, 23, 16}, {1, 1, 0, 16}, {0, 0, 0, 16}, {2, 0, 0, 16},
            {2, 1439, 23, 18}, {2, 1439, 22, 18}, {2, 1439, 21, 16}, {2, 1439, 0, 16}, {2, 1438, 23, 16},
            {3, 200, 10, 18}, {3, 199, 10, 16}, {3, 300, 10, 18}, {3, 301, 10, 16}, {3, 250, 9, 18}, {3, 250, 8, 16},
            {3, 250, 11, 18}, {3, 250, 12, 16}, {4, 250, 10, 16}, {3, 200, 9, 18}, {3, 300, 11, 18}, {3, 199, 9, 16}
        };
        for (int n = 0; n < spots.length; n++) {
            int[] s = spots[n];
            there(run, n, "sight(" + s[0] + ", " + s[1] + ", " + s[2] + ", 0, 0, 1, 59)", s[3]);
        }
    }

    private static void logsAtAPlace() {
        Run run = on("watcher(1)", "log(1, 0)", "log(2, 23)");
        there(run, 0, "sight(1, 0, 0, 0, 0, 1, 1)", 20);
        there(run, 1, "sight(1, 1439, 0, 0, 0, 1, 59)", 20);
        there(run, 2, "sight(1, 0, 1, 0, 0, 1, 1)", 16);
        there(run, 3, "sight(0, 0, 0, 0, 0, 1, 1)", 16);
        there(run, 4, "sight(2, 0, 0, 0, 0, 1, 2)", 16);
        there(run, 5, "sight(2, 0, 23, 0, 0, 1, 2)", 20);
        there(run, 6, "sight(2, 0, 22, 0, 0, 1, 2)", 16);
    }

    private static void bentAirOfADay() {
        Run run = on("watcher(1)", "day(1, 1, 1)", "day(2, 0, 9)", "day(2, 2, 9)", "day(3, 1, 9)");
        there(run, 0, "sight(0, 0, 0, 0, 0, 1, 1)", 16);
        there(run, 1, "sight(1, 0, 0, 0, 0, 1, 1)", 24);
        there(run, 2, "sight(2, 0, 0, 0, 0, 1, 3)", 16);
        there(run, 3, "sight(3, 0, 0, 0, 0, 1, 3)", 24);
        run.due("day(1, 1, 0)", 1).due("there(1)", 16);
        Run all = on("watcher(1)", "boat(1, 0, 0, 1)", "beast(1, 5, 0, 50)", "log(1, 5)", "day(1, 1, 1)");
        there(all, 0, "sight(1, 20, 5, 0, 0, 1, 1)", 31);
        all.cannot("there(1)", -1).cannot("there(-1)", -1).cannot("there(40)", -1);
    }
}
