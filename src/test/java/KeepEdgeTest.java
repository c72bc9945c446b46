import java.util.ArrayList;
import java.util.Arrays;
import java.util.List;

/** What IMAGES keep and do not keep, and promises 37 to 40 at their bounds. */
public final class KeepEdgeTest {
    private static final Check C = new Check("KeepEdgeTest");

    /** One of everything that IMAGES keep. */
    private static final String[] FURNISHED = {"day(0, 0, 3)", "day(0, 1, 1)", "day(59, 2, 7)", "boat(0, 0, 60, 2)",
        "beast(0, 6, 70, 90)", "log(0, 5)", "watcher(50)", "watcher(100)", "pole(0, 10, 20)",
        "sight(0, 80, 5, 0, 3, 40, 2)", "story(50, 0, 1)", "story(50, 2, 10)", "sweep(50, 5, 0, 0)", "kin(0, 1)",
        "kin(1, 200)", "kin(2, 3)", "offer(50, 5, 0, 10)", "year(0, 10, 4)", "year(1, 30, 20)", "ripple(3, 2, 4)"};

    /** Each changes something that IMAGES keep. */
    private static final String[] CHANGES = {"day(0, 0, 4)", "day(0, 1, 0)", "day(59, 2, 8)", "day(30, 0, 1)",
        "boat(0, 1, 60, 1)", "beast(0, 0, 0, 1439)", "log(0, 0)", "watcher(70)", "pole(1, 1, 1)", "pole(0, 99, 1)",
        "sight(0, 81, 5, 1, 4, 50, 3)", "story(99, 1, 60)", "sweep(10, 1, 5, 1)", "kin(0, 50)", "kin(1, 9)", "kin(2, 99)",
        "offer(90, 1, 9, 1)", "year(0, 11, 4)", "year(1, 30, 999)", "year(29, 1, 1)", "ripple(3, 1, 9)", "ripple(9, 9, 9)"};

    public static void main(String[] args) {
        promise37And38Refused();
        imagesKeepEachThing();
        imagesKeepTheLaw();
        imagesKeepTheRoom();
        imagesDoNotKeep();
        imagesStay();
        imagesOfAnEmptyAndOfAFullLake();
        promise39Count();
        promise39EachCountsItsOwn();
        promise40StatusAheadOfAny();
        promise40StatusOfTheLatest();
        promise40NotOfOthers();
        C.done();
    }

    private static Run on(String... setup) {
        return new Run(C, setup);
    }

    private static String[] and(String[] ahead, String... behind) {
        List<String> all = new ArrayList<>(Arrays.asList(ahead));
        all.addAll(Arrays.asList(behind));
        return all.toArray(new String[0]);
    }

    private static void promise37And38Refused() {
        Run.bounds(C, "image(#)", 0, 1);
        Run.bounds(C, "back(#)", 0, 1, "image(0)", "image(1)");
        on(FURNISHED).refused("back(0)", -2).refused("back(1)", -2).refused("back(2)", -1).refused("back(-1)", -1)
            .refused("image(2)", -1).refused("image(-1)", -1).refused("back(0)", -2);
        on(and(FURNISHED, "image(0)")).refused("back(1)", -2).due("back(0)", 0).due("back(0)", 0);
        on(and(FURNISHED, "image(1)")).refused("back(0)", -2).due("back(1)", 0);
        on("image(0)", "watcher(1)").refused("image(2)", -1).due("back(0)", 0).due("count(3)", 0);
    }

    private static void imagesKeepEachThing() {
        for (String change : CHANGES) {
            on(FURNISHED).goneBack(0, change);
            on().goneBack(1, and(FURNISHED, change));
        }
        on(FURNISHED).goneBack(1, CHANGES);
        on(and(FURNISHED, "image(1)", "watcher(3)", "day(1, 0, 9)")).goneBack(0, "back(1)");
        on(and(FURNISHED, "image(0)", "watcher(3)", "story(1, 3, 3)")).goneBack(1, "back(0)");
    }

    private static void imagesKeepTheLaw() {
        Run run = on(FURNISHED).due("image(0)", 0);
        run.law("wake 1;grow 200", 2).due("image(1)", 0).law("made 7;made 8;made 9", 3).due("odds(0, 4, 0)", 1);
        run.due("back(1)", 0).due("count(6)", 2).due("of(0, 8)", 200).due("odds(0, 0, 0)", 1).due("odds(0, 4, 0)", 0);
        run.due("back(0)", 0).due("count(6)", 0).due("of(0, 8)", 100).due("odds(0, 0, 0)", -1);
        run.law("grow 5 if humps=3 and (length=40 or 1/0=1)", 1).due("of(0, 8)", 5).due("back(1)", 0).due("of(0, 8)", 200);
    }

    private static void imagesKeepTheRoom() {
        Run run = on("watcher(0)", "image(0)");
        for (int n = 0; n < 12; n++) {
            run.due("boat(0, 0, 0, 1)", n);
        }
        run.refused("boat(0, 0, 0, 1)", -5).due("image(1)", 0).due("back(0)", 0);
        for (int n = 0; n < 12; n++) {
            run.due("boat(1, 0, 0, 1)", n);
        }
        run.due("back(0)", 0).due("boat(2, 0, 5, 1)", 0).due("sight(2, 6, 0, 0, 0, 1, 2)", 0).due("of(0, 7)", 1);
        run.due("sight(1, 6, 0, 0, 0, 1, 2)", 1).due("of(1, 7)", 0);
        run.due("back(1)", 0).refused("boat(0, 0, 0, 1)", -5).due("count(5)", 0).due("of(0, 7)", -1);
        // Of STORIES, SWEEPS and OFFERS that are there no more nothing is weighed.
        Run weighed = on("story(1, 0, 1)", "offer(0, 1, 50, 9)", "image(0)", "story(99, 0, 1)", "sweep(0, 1, 5, 1)",
            "offer(0, 1, 90, 1)");
        weighed.due("likely(0)", 10000).due("says(1)", 500000).due("plan(9)", 2).due("back(0)", 0).due("likely(0)", 1000000)
            .due("says(1)", 500000).due("says(2)", -1).due("plan(9)", 1).due("plan(1)", 0).due("moved(0, 0)", -10000000);
    }

    private static void imagesDoNotKeep() {
        Run run = on(FURNISHED).feed(1, 2, 3).due("row()", 0).due("cousins()", 1).fault("made", 4);
        run.feed("made 5").due("image(0)", 0).due("run(0, 3, 1)", 6).due("world(2, 1)", 3);
        run.due("end(4)", 4).due("back(0)", 0).due("count(10)", 4).due("cousins()", 1).due("fault()", 4).due("world(2, 1)", 3);
        run.due("end(0)", 0).feed(1, 2, 3, 4, 5, 6, 7, 8, 9).due("row()", 0).due("cousins()", 2).law("made 1", 1);
        run.feed(1, 2).due("back(0)", 0).due("cousins()", 2).due("fault()", -1).due("count(6)", 0).due("count(10)", 2);
        run.due("end(0)", 0).due("watcher(101)", -1).due("run(9, 1, 1)", -2).due("law()", -6).due("fault()", 0);
        run.dues("count(#)", 11, 1, 1, 0, 2).due("back(0)", 0).due("status()", 0).dues("count(#)", 11, 1, 1, 0, 2)
            .due("fault()", 0).due("world(2, 1)", 3);
        run.refused("back(1)", -2).due("image(1)", 0).due("status()", 0).dues("count(#)", 11, 1, 2, 0, 2);
        // A TAPE that was there then is not put back, and one that is there now stays with all its bytes.
        on("image(0)").feed("made 1").due("back(0)", 0).due("count(10)", 6).due("law()", 1);
        on().feed("made 1").due("image(0)", 0).due("law()", 1).due("back(0)", 0).due("count(10)", 0)
            .due("law()", -6);
    }

    private static void imagesStay() {
        Run run = on("image(0)", "watcher(1)", "image(1)", "watcher(2)");
        run.due("back(0)", 0).due("count(3)", 0).due("back(1)", 0).due("count(3)", 1).due("watcher(3)", 1)
            .due("back(1)", 0).due("count(3)", 1).due("back(0)", 0).due("count(3)", 0).due("watcher(3)", 0)
            .due("watcher(3)", 1).due("image(0)", 0).due("back(1)", 0).due("count(3)", 1).due("back(0)", 0).due("count(3)", 2);
        // What is changed behind back() changes the lake alone, not the image.
        Run day = on("day(0, 0, 1)", "image(0)", "back(0)");
        day.due("day(0, 0, 5)", 1).due("back(0)", 0).due("day(0, 0, 6)", 1).due("back(0)", 0).due("day(0, 0, 7)", 1);
        Run law = on("watcher(1)", "sight(0, 0, 0, 0, 0, 1, 0)").law("grow 5", 1).due("image(0)", 0).due("back(0)", 0);
        law.law("grow 6", 1).due("of(0, 8)", 6).due("back(0)", 0).due("of(0, 8)", 5);
    }

    private static void imagesOfAnEmptyAndOfAFullLake() {
        List<String> full = new ArrayList<>(List.of("watcher(9)"));
        for (int n = 0; n < 40; n++) {
            full.add("sight(" + n + ", " + n * 3 + ", " + n % 24 + ", 0, " + n % 10 + ", " + (n + 1) + ", 59)");
        }
        for (int n = 0; n < 20; n++) {
            full.add("pole(0, " + (n + 1) + ", " + (n * 9 + 1) + ")");
        }
        for (int n = 0; n < 10; n++) {
            full.add("offer(" + n * 10 + ", " + (n + 1) + ", " + n + ", " + (n + 1) + ")");
        }
        for (int n = 0; n < 6; n++) {
            full.add("story(" + (n + 9) + ", " + n + ", " + (n * 9 + 5) + ")");
        }
        String[] all = full.toArray(new String[0]);
        on().goneBack(0, all);
        on(all).due("image(1)", 0).refused("sight(0, 0, 0, 0, 0, 1, 0)", -5).due("back(1)", 0).due("count(5)", 40)
            .due("of(39, 0)", 39).refused("pole(0, 1, 1)", -5);
    }

    private static void promise39Count() {
        on(FURNISHED).dues("count(#)", -1, -1, 1, 1, 1, 2, 1, 1, 0, 2, 1, 1, 0, 0, 0, 0, 0, -1);
        on().cannot("count(-1)", -1).cannot("count(15)", -1).cannot("count(2147483647)", -1).cannot("count(-2147483648)", -1);
        Run run = on();
        run.due("watcher(-1)", -1).due("watcher(-1)", -1).due("watcher(-1)", -1).due("back(0)", -2).due("back(0)", -2)
            .due("row()", -6).dues("count(#)", 11, 3, 2, 0, 1);
        for (int n = 0; n < 14; n++) {
            run.due("log(0, 0)", n < 12 ? n : -5);
        }
        run.dues("count(#)", 11, 3, 2, 2, 1).due("law()", -6).dues("count(#)", 11, 3, 2, 2, 2);
    }

    private static void promise39EachCountsItsOwn() {
        String[] adding = {"boat(0, 0, 0, 1)", "beast(0, 0, 0, 0)", "log(0, 0)", "watcher(1)", "pole(0, 1, 1)",
            "sight(0, 0, 0, 0, 0, 1, 0)", null, "story(1, 1, 1)", "sweep(1, 1, 1, 1)", "offer(1, 1, 1, 1)", "feed(0, 0, 0, 0, 0)"};
        for (int what = 0; what < adding.length; what++) {
            if (adding[what] != null) {
                Run run = on("watcher(1)").due(adding[what], what == 3 ? 1 : what == 10 ? 20 : 0);
                for (int other = 0; other <= 14; other++) {
                    int own = what == 10 ? 20 : 1;
                    run.due("count(" + other + ")", (other == what ? own : 0) + (other == 3 ? 1 : 0));
                }
            }
        }
        on().law("made 1;made 2", 2).dues("count(#)", 0, 0, 0, 0, 0, 0, 0, 2, 0, 0, 0, 0, 0, 0, 0, 0);
    }

    private static void promise40StatusAheadOfAny() {
        on().due("status()", 0).due("of(0, 0)", -1).due("end(1)", -1).due("feed(1, 2, 3, 4, 5)", 20).due("status()", 0);
    }

    /** Each of the calls that status() tells of: REFUSED, then taken. */
    private static void promise40StatusOfTheLatest() {
        String[][] calls = {
            {"day(60, 0, 0)", "day(0, 0, 1)"}, {"boat(0, 0, 0, 0)", "boat(0, 0, 0, 1)"}, {"beast(0, 0, 1, 0)", "beast(0, 0, 0, 0)"},
            {"log(0, 24)", "log(0, 0)"}, {"watcher(101)", "watcher(0)"}, {"pole(0, 0, 1)", "pole(0, 1, 1)"},
            {"sight(0, 0, 0, 0, 0, 0, 0)", "sight(0, 0, 0, 0, 0, 1, 0)"}, {"story(0, 0, 0)", "story(0, 0, 1)"},
            {"sweep(0, 0, 0, 0)", "sweep(0, 1, 0, 0)"}, {"kin(3, 0)", "kin(0, 0)"}, {"offer(0, 1, 0, 0)", "offer(0, 1, 0, 1)"},
            {"year(30, 0, 0)", "year(0, 0, 0)"}, {"ripple(0, 1, 0)", "ripple(0, 1, 1)"}, {"run(0, 0, 0)", "run(0, 1, 0)"},
            {"image(2)", "image(0)"}, {"back(2)", "back(1)"}
        };
        for (String[] pair : calls) {
            Run run = on("watcher(1)", "story(1, 1, 1)", "image(1)").refused(pair[0], -1);
            run.ask(pair[1]);
            run.due("status()", 0).dues("count(#)", 11, 1, 0, 0, 0).refused(pair[0], -1);
        }
        on().refused("row()", -6).feed(1).due("status()", -6).due("row()", 0).due("status()", 0).refused("row()", -6);
        on().fault("made", 4).feed("made 1").due("status()", -6).due("law()", 1).due("status()", 0);
        on().refused("watcher(101)", -1).refused("pole(0, 1, 1)", -2).refused("watcher(101)", -1).due("watcher(1)", 0)
            .due("status()", 0).due("status()", 0);
    }

    /** Other calls leave it, whether they can answer or not. */
    private static void promise40NotOfOthers() {
        String[] others = {"feed(1, 2, 3, 4, 5)", "end(0)", "cousins()", "fault()", "of(0, 0)", "there(0)", "odds(0, 4, 0)",
            "unknown(0, 0)", "span(0, 0)", "most(0)", "likely(0)", "moved(0, 0)", "lot(0)", "says(1)", "plan(10)",
            "more(0, 1, 0)", "grew(0)", "picture(0, 1, 0)", "world(0, -1)", "count(0)"};
        int[] wants = {20, 0, 0, -1, 0, 31, -1, 1, 20, 0, 800000, 300000, 3, 150000, 1, 12, 1, 2, 0, 1};
        Run run = on(and(FURNISHED, "run(1, 9, 5)"));
        for (int n = 0; n < others.length; n++) {
            run.leavesRefusals(others[n], wants[n]);
        }
        run.refuseSomething();
        for (int n = 0; n < others.length; n++) {
            run.leavesRefusals(others[n], wants[n]);
        }
        run.due("status()", -1);
    }
}
