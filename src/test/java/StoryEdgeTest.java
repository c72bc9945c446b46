/** Terms III at their bounds: STORIES and SWEEPS, ODDS and what MOVED them, KIN, OFFERS, what they SAY, PLANS. */
public final class StoryEdgeTest {
    private static final Check C = new Check("StoryEdgeTest");
    private static final int NOTHING = -10000000;

    public static void main(String[] args) {
        promise21Stories();
        promise22Sweeps();
        partAtItsBounds();
        numberAtItsBounds();
        sizeBesideLeast();
        falselyAtItsBounds();
        promise23Likely();
        promise23AllCountNothing();
        promise23Exactly();
        promise23ExactlyWhatIsLeft();
        promise24Moved();
        promise25Kin();
        promise26StoriesThatCanBe();
        promise26GreatestNumber();
        promise27Offers();
        promise28Says();
        promise28SaysOfNoneAndOfTen();
        promise28EachCut();
        promise29Plan();
        promise29AlikeSets();
        C.done();
    }

    private static Run on(String... setup) {
        return new Run(C, setup);
    }

    private static void promise21Stories() {
        Run.bounds(C, "story(#, 0, 1)", 0, 100);
        Run.bounds(C, "story(0, #, 1)", 0, 20);
        Run.bounds(C, "story(0, 0, #)", 1, 60);
        Run.bounds(C, "story(100, 20, #)", 1, 60);
        on("story(0, 20, 60)", "story(100, 0, 1)").dues("likely(#)", -1, -1, 0, 1000000, -1);
        on("story(1, 0, 1)", "story(99, 0, 1)").dues("likely(#)", 0, 10000, 990000);
        on("story(100, 0, 1)", "story(100, 0, 60)").dues("likely(#)", 0, 500000, 500000);
    }

    private static void promise22Sweeps() {
        Run.bounds(C, "sweep(#, 1, 0, 0)", 0, 100);
        Run.bounds(C, "sweep(0, #, 0, 0)", 1, 60);
        Run.bounds(C, "sweep(0, 1, #, 0)", 0, 99);
        Run.bounds(C, "sweep(0, 1, 0, #)", 0, 1);
        Run.bounds(C, "sweep(100, 60, 99, #)", 0, 1);
    }

    /** ODDS of one that hears none of its own beside one of two beasts of size 10, after a SWEEP. */
    private static void sweep(String sweep, int none, int two) {
        on("story(50, 0, 10)", "story(50, 2, 10)", sweep).dues("likely(#)", 0, none, two);
    }

    private static void partAtItsBounds() {
        sweep("sweep(0, 1, 0, 0)", 500000, 500000);
        sweep("sweep(0, 1, 0, 1)", 0, 0);
        sweep("sweep(0, 1, 1, 1)", 500000, 500000);
        sweep("sweep(1, 1, 0, 0)", 505024, 494975);
        sweep("sweep(1, 1, 0, 1)", 0, 1000000);
        sweep("sweep(50, 1, 0, 0)", 800000, 200000);
        sweep("sweep(99, 1, 0, 0)", 999900, 99);
        sweep("sweep(99, 1, 0, 1)", 0, 1000000);
        sweep("sweep(100, 1, 0, 0)", 1000000, 0);
        sweep("sweep(100, 1, 0, 1)", 0, 1000000);
        sweep("sweep(100, 1, 50, 1)", 333333, 666666);
        sweep("sweep(100, 1, 50, 0)", 1000000, 0);
    }

    private static void numberAtItsBounds() {
        on("story(1, 0, 60)", "story(1, 1, 60)", "sweep(100, 1, 0, 0)").dues("likely(#)", 0, 1000000, 0);
        on("story(1, 0, 60)", "story(1, 1, 60)", "sweep(100, 1, 0, 1)").dues("likely(#)", 0, 0, 1000000);
        on("story(1, 1, 60)", "story(1, 20, 60)", "sweep(50, 1, 0, 1)").dues("likely(#)", 0, 333333, 666666);
        on("story(1, 0, 60)", "story(1, 20, 60)", "sweep(10, 1, 0, 0)").dues("likely(#)", 0, 891602, 108397);
        on("story(1, 0, 60)", "story(1, 1, 60)", "sweep(50, 1, 0, 0)").dues("likely(#)", 0, 666666, 333333);
        on("story(1, 0, 60)", "story(100, 19, 60)", "story(100, 20, 60)", "sweep(50, 1, 0, 0)")
            .dues("likely(#)", 0, 999713, 190, 95);
    }

    private static void sizeBesideLeast() {
        for (int least : new int[] {2, 10, 60}) {
            String small = "story(50, 1, " + (least - 1) + ")";
            String large = "story(50, 1, " + least + ")";
            on(small, large, "sweep(100, " + least + ", 0, 0)").dues("likely(#)", 0, 1000000, 0);
            on(small, large, "sweep(100, " + least + ", 0, 1)").dues("likely(#)", 0, 0, 1000000);
            on(small, large, "offer(100, " + least + ", 0, 1)").due("says(1)", 500000).due("plan(1)", 1);
            on(small, "offer(100, " + least + ", 0, 1)").due("says(1)", 0).due("plan(1)", 0);
        }
        on("story(50, 0, 1)", "story(50, 1, 1)", "sweep(100, 1, 0, 0)").dues("likely(#)", 0, 1000000, 0);
        on("story(50, 0, 60)", "story(50, 1, 60)", "sweep(100, 60, 0, 0)").dues("likely(#)", 0, 1000000, 0);
    }

    private static void falselyAtItsBounds() {
        sweep("sweep(0, 1, 99, 0)", 500000, 500000);
        sweep("sweep(0, 1, 99, 1)", 500000, 500000);
        // Heard falsely 99 times of 100: what is there adds next to nothing, but what it adds counts.
        sweep("sweep(50, 1, 99, 1)", 498113, 501886);
        sweep("sweep(50, 1, 99, 0)", 800000, 200000);
        sweep("sweep(50, 1, 1, 1)", 13114, 986885);
        sweep("sweep(50, 1, 0, 1)", 0, 1000000);
    }

    private static void promise23Likely() {
        on("story(1, 0, 1)").due("likely(0)", 1000000).cannot("likely(1)", -1).cannot("likely(-1)", -1)
            .cannot("likely(6)", -1);
        on().cannot("likely(0)", -1).cannot("likely(2147483647)", -1).cannot("likely(-2147483648)", -1);
        on("story(1, 0, 1)", "story(1, 0, 1)", "story(1, 0, 1)").dues("likely(#)", 0, 333333, 333333, 333333, -1);
        on("story(100, 1, 1)", "story(99, 1, 1)").dues("likely(#)", 0, 502512, 497487);
    }

    private static void promise23AllCountNothing() {
        on("story(0, 0, 1)").due("likely(0)", 0);
        on("story(0, 5, 9)", "story(0, 0, 1)").dues("likely(#)", 0, 0, 0);
        on("story(5, 1, 9)", "story(5, 2, 9)", "sweep(100, 1, 0, 0)").dues("likely(#)", 0, 0, 0).due("moved(0, 0)", -500000)
            .due("moved(1, 0)", -500000);
        on("story(5, 1, 9)", "offer(100, 1, 0, 1)", "sweep(100, 1, 0, 0)").due("says(1)", 0).due("plan(1000)", 0);
        on("story(5, 0, 9)", "sweep(50, 1, 0, 1)").due("likely(0)", 0);
    }

    /** Chances of hundreds of digits: none of them may be rounded. */
    private static void promise23Exactly() {
        // A hundredth to the 19th or the 20th of what is silent: these fall short of a half by next to nothing.
        on("story(1, 19, 60)", "story(1, 20, 60)", "sweep(99, 1, 0, 1)").dues("likely(#)", 0, 499999, 500000);
        on("story(1, 20, 60)", "story(1, 20, 60)", "sweep(99, 1, 0, 1)").dues("likely(#)", 0, 500000, 500000);
        String[] twelve = new String[14];
        twelve[0] = "story(100, 19, 60)";
        twelve[1] = "story(100, 20, 60)";
        for (int n = 2; n < 14; n++) {
            twelve[n] = "sweep(99, 1, 0, 1)";
        }
        on(twelve).dues("likely(#)", 0, 499999, 500000);
        for (int n = 2; n < 14; n++) {
            twelve[n] = "sweep(99, 1, 0, 0)";
        }
        on(twelve).dues("likely(#)", 0, 1000000 - 1, 0);
        twelve[0] = "story(100, 20, 60)";
        on(twelve).dues("likely(#)", 0, 500000, 500000).due("moved(0, 11)", 0);
    }

    /** Taken from a hundred to a high power, digits are borrowed through many noughts. */
    private static void promise23ExactlyWhatIsLeft() {
        on("story(1, 1, 60)", "story(1, 2, 60)", "sweep(1, 1, 0, 1)").dues("likely(#)", 0, 334448, 665551);
        on("story(1, 10, 60)", "story(1, 20, 60)", "sweep(1, 1, 0, 1)").dues("likely(#)", 0, 344307, 655692);
        on("story(1, 20, 60)", "story(1, 20, 60)", "story(1, 20, 60)", "sweep(97, 1, 0, 1)")
            .dues("likely(#)", 0, 333333, 333333, 333333);
        on("story(1, 20, 60)", "story(2, 19, 60)", "sweep(50, 1, 0, 1)").dues("likely(#)", 0, 333333, 666666);
        on("story(99, 20, 60)", "story(1, 0, 60)", "sweep(50, 1, 1, 1)", "sweep(99, 1, 1, 1)", "sweep(10, 1, 99, 1)")
            .dues("likely(#)", 0, 999998, 1);
    }

    private static void promise24Moved() {
        Run run = on("story(50, 0, 1)", "story(50, 2, 10)", "sweep(50, 5, 0, 0)", "sweep(50, 5, 20, 1)");
        run.due("moved(0, 0)", 300000).due("moved(1, 0)", -300000).due("moved(0, 1)", -300000).due("moved(1, 1)", 300000);
        run.cannot("moved(-1, 0)", NOTHING).cannot("moved(2, 0)", NOTHING).cannot("moved(0, -1)", NOTHING)
            .cannot("moved(0, 2)", NOTHING).cannot("moved(-1, -1)", NOTHING).cannot("moved(2, 2)", NOTHING)
            .cannot("moved(6, 0)", NOTHING).cannot("moved(0, 12)", NOTHING);
        on().cannot("moved(0, 0)", NOTHING);
        on("story(1, 0, 1)").cannot("moved(0, 0)", NOTHING);
        on("sweep(1, 1, 1, 1)").cannot("moved(0, 0)", NOTHING);
        // From nothing to all, and from all to nothing.
        Run all = on("story(1, 0, 1)", "story(100, 1, 1)", "sweep(100, 1, 1, 1)", "sweep(100, 1, 1, 1)",
            "sweep(100, 1, 1, 1)", "sweep(100, 1, 0, 0)");
        all.due("moved(0, 3)", 1000000).due("moved(1, 3)", -999999).due("moved(0, 0)", 0).due("moved(1, 0)", 0);
        on("story(1, 1, 1)", "sweep(100, 1, 0, 0)").due("moved(0, 0)", -1000000);
        on("story(1, 1, 1)", "sweep(100, 1, 0, 0)", "sweep(0, 1, 0, 1)").dues("moved(0, #)", 0, 0, 0);
    }

    private static void promise25Kin() {
        Run.bounds(C, "kin(0, #)", 0, 50, "kin(0, 0)");
        Run.bounds(C, "kin(1, #)", 0, 10000, "kin(1, 0)");
        for (int n : new int[] {1, 100}) {
            on().due("kin(2, " + n + ")", 1).due("status()", 0).due("kin(2, 1)", n);
        }
        on().refused("kin(2, 0)", -1).refused("kin(2, 101)", -1).refused("kin(2, -1)", -1).due("kin(2, 1)", 1);
        on().refused("kin(-1, 1)", -1).refused("kin(3, 1)", -1).refused("kin(2147483647, 1)", -1);
        on().due("kin(0, 50)", 2).due("kin(0, 0)", 50).due("kin(0, 2)", 0);
        on().due("kin(1, 10000)", 100).due("kin(1, 0)", 10000).due("kin(1, 100)", 0);
        on().due("kin(2, 100)", 1).due("kin(2, 1)", 100).due("kin(0, 2)", 2).due("kin(1, 100)", 100);
    }

    private static void promise26StoriesThatCanBe() {
        Run run = on("story(0, 0, 60)", "story(1, 1, 1)", "story(1, 2, 50)", "story(1, 2, 51)", "story(1, 20, 5)",
            "story(1, 20, 60)");
        run.due("lot(0)", 1 + 4 + 16).due("kin(0, 1)", 2).due("lot(0)", 1 + 2 + 4 + 16).due("kin(0, 0)", 1)
            .due("lot(0)", 1 + 2 + 4 + 16).due("kin(0, 3)", 0).due("lot(0)", 1 + 16).due("kin(0, 20)", 3)
            .due("lot(0)", 1 + 16).due("kin(0, 21)", 20).due("lot(0)", 1).due("kin(0, 50)", 21).due("lot(0)", 1);
        run.due("kin(0, 0)", 50).due("kin(1, 102)", 100).due("lot(0)", 1 + 2 + 4 + 8 + 16).due("kin(1, 101)", 102)
            .due("lot(0)", 1 + 2 + 4 + 16).due("kin(1, 99)", 101).due("lot(0)", 1 + 2).due("kin(1, 1)", 99)
            .due("lot(0)", 1 + 2).due("kin(1, 0)", 1).due("lot(0)", 1);
        run.due("kin(1, 1200)", 0).due("lot(0)", 63).due("kin(1, 1199)", 1200).due("lot(0)", 31);
        run.due("kin(1, 10000)", 1199).due("kin(2, 8)", 1).due("lot(0)", 63).due("kin(2, 9)", 8).due("lot(0)", 31)
            .due("kin(2, 100)", 9).due("lot(0)", 1 + 2 + 4 + 16).due("kin(1, 9999)", 10000).due("lot(0)", 1 + 2);
    }

    private static void promise26GreatestNumber() {
        Run run = on();
        run.due("lot(1)", 100).due("lot(20)", 5).due("lot(21)", 4).due("lot(60)", 1).cannot("lot(61)", -1)
            .cannot("lot(-1)", -1).cannot("lot(2147483647)", -1).due("lot(0)", 0);
        run.due("kin(1, 10000)", 100).due("lot(1)", 10000).due("lot(60)", 166);
        run.due("kin(2, 100)", 1).due("lot(1)", 100).due("lot(60)", 1).due("lot(50)", 2).due("lot(51)", 1);
        run.due("kin(1, 6000)", 10000).due("lot(60)", 1).due("kin(1, 5999)", 6000).due("lot(60)", 0)
            .due("kin(1, 0)", 5999).due("lot(1)", 0).due("lot(60)", 0);
        run.due("kin(1, 200)", 0).due("kin(2, 7)", 100).due("lot(1)", 28).due("lot(14)", 2).due("lot(15)", 1)
            .due("lot(29)", 0).due("lot(28)", 1);
    }

    private static void promise27Offers() {
        Run.bounds(C, "offer(#, 1, 0, 1)", 0, 100);
        Run.bounds(C, "offer(0, #, 0, 1)", 1, 60);
        Run.bounds(C, "offer(0, 1, #, 1)", 0, 99);
        Run.bounds(C, "offer(0, 1, 0, #)", 1, 100);
        Run.bounds(C, "offer(100, 60, 99, #)", 1, 100);
    }

    private static void promise28Says() {
        Run run = on("story(1, 3, 20)", "offer(33, 20, 0, 1)", "offer(0, 1, 10, 1)", "offer(50, 21, 0, 1)");
        run.dues("says(#)", 0, 0, 699237, 100000, 729314, 0, 699237, 100000, 729314).cannot("says(8)", -1)
            .cannot("says(-1)", -1).cannot("says(1024)", -1).cannot("says(-2147483648)", -1).cannot("says(2147483647)", -1);
        on("story(1, 3, 20)").due("says(0)", 0).cannot("says(1)", -1).cannot("says(-1)", -1);
        on("story(1, 0, 20)", "offer(100, 1, 0, 1)", "offer(0, 1, 99, 1)", "offer(100, 1, 99, 1)")
            .dues("says(#)", 0, 0, 0, 990000, 990000, 990000, 990000, 999900, 999900);
        on("story(1, 1, 20)", "offer(100, 1, 0, 1)", "offer(0, 1, 0, 1)", "offer(99, 1, 0, 1)", "offer(1, 1, 0, 1)")
            .dues("says(#)", 0, 0, 1000000, 0, 1000000, 990000, 1000000, 990000, 1000000, 10000);
        on("story(1, 20, 20)", "offer(50, 20, 0, 1)", "offer(10, 20, 0, 1)").dues("says(#)", 0, 0, 1000000, 878426, 1000000);
    }

    private static void promise28SaysOfNoneAndOfTen() {
        String[] ten = new String[11];
        ten[0] = "story(1, 0, 1)";
        for (int n = 1; n <= 10; n++) {
            ten[n] = "offer(100, 1, " + n + ", 100)";
        }
        Run run = on(ten);
        run.due("says(0)", 0).due("says(512)", 100000).due("says(1)", 10000).due("says(1023)", 434662)
            .cannot("says(1024)", -1).cannot("says(-1)", -1).cannot("says(2047)", -1);
        run.due("plan(1000)", 1023).due("plan(999)", 1022).due("plan(900)", 1022).due("plan(899)", 1020)
            .due("plan(200)", 768).due("plan(199)", 512).due("plan(100)", 512).due("plan(99)", 0).due("plan(0)", 0);
        on("offer(100, 1, 1, 1)", "offer(1, 1, 2, 1)").due("says(0)", 0).due("says(3)", 0).due("plan(1000)", 0);
        on().due("says(0)", 0).due("plan(0)", 0).due("plan(1000)", 0).cannot("says(1)", -1);
    }

    private static void promise28EachCut() {
        // Cut each time, part ahead of false, the offers in order: any other way tells another number.
        on("story(1, 7, 5)", "offer(1, 1, 45, 1)", "offer(29, 1, 18, 1)").due("says(3)", 1000000 - 38230);
        // The sum of cut numbers, not a cut sum.
        on("story(1, 0, 1)", "story(2, 0, 1)", "offer(0, 1, 10, 1)").due("says(1)", 33333 + 66666);
        on("story(1, 0, 1)", "story(1, 0, 1)", "story(1, 0, 1)", "offer(0, 1, 50, 1)").due("says(1)", 3 * 166666);
        // By the ODDS that the sweeps have left.
        on("story(50, 0, 1)", "story(50, 2, 10)", "sweep(50, 5, 0, 0)", "offer(100, 5, 0, 1)").due("says(1)", 200000);
    }

    private static void promise29Plan() {
        Run run = on("story(1, 1, 10)", "offer(50, 1, 0, 100)", "offer(40, 1, 0, 7)");
        run.due("plan(6)", 0).due("plan(7)", 2).due("plan(99)", 2).due("plan(100)", 1).due("plan(106)", 1)
            .due("plan(107)", 3).due("plan(1000)", 3).due("plan(0)", 0).cannot("plan(1001)", -1).cannot("plan(-1)", -1)
            .cannot("plan(2147483647)", -1).cannot("plan(-2147483648)", -1);
        on("story(1, 1, 10)").due("plan(1000)", 0).cannot("plan(1001)", -1);
        on("story(1, 1, 10)", "offer(50, 1, 0, 1)").due("plan(1)", 1).due("plan(0)", 0);
        // All stories together: the first offer says most of two of them, the second of the last one alone.
        on("story(30, 1, 10)", "story(30, 1, 10)", "story(40, 1, 30)", "offer(90, 5, 0, 1)", "offer(95, 20, 0, 1)")
            .due("says(1)", 900000).due("says(2)", 380000).due("plan(1)", 1);
        on("story(40, 1, 30)", "story(30, 1, 10)", "story(30, 0, 10)", "offer(95, 20, 0, 1)", "offer(80, 5, 0, 1)")
            .due("says(1)", 380000).due("says(2)", 560000).due("plan(1)", 2);
        // By the ODDS of now, whatever was planned ahead: a story that is ruled out says nothing any more.
        Run again = on("story(90, 1, 30)", "story(10, 1, 10)", "story(10, 0, 10)", "offer(95, 20, 0, 1)", "offer(10, 5, 0, 1)");
        again.due("plan(1)", 1).due("says(1)", 777271).due("sweep(100, 20, 0, 0)", 0).due("says(1)", 0).due("says(2)", 50000)
            .due("plan(1)", 2).due("plan(1)", 2);
    }

    private static void promise29AlikeSets() {
        // The cheapest, though its bits are higher.
        on("story(1, 1, 10)", "offer(50, 1, 0, 10)", "offer(50, 1, 0, 9)").due("plan(10)", 2).due("plan(18)", 2)
            .due("plan(19)", 3);
        on("story(1, 1, 10)", "offer(50, 1, 0, 9)", "offer(50, 1, 0, 10)").due("plan(10)", 1).due("plan(18)", 1);
        // As cheap: the lowest bits as a number, though they are more offers.
        on("story(1, 1, 10)", "offer(50, 1, 0, 10)", "offer(50, 1, 0, 10)").due("plan(10)", 1).due("plan(19)", 1);
        on("story(1, 1, 10)", "offer(50, 1, 0, 10)", "offer(50, 1, 0, 10)", "offer(75, 1, 0, 20)").due("plan(20)", 3);
        on("story(1, 1, 10)", "offer(75, 1, 0, 20)", "offer(50, 1, 0, 10)", "offer(50, 1, 0, 10)").due("plan(20)", 1);
        on("story(1, 1, 10)", "offer(50, 1, 0, 10)", "offer(50, 1, 0, 10)", "offer(75, 1, 0, 19)").due("plan(20)", 4);
        on("story(1, 1, 10)", "offer(50, 1, 0, 10)", "offer(50, 1, 0, 10)", "offer(75, 1, 0, 21)").due("plan(21)", 3);
        // What says nothing more is not taken, as the set without it is cheaper.
        on("story(1, 1, 10)", "offer(100, 1, 0, 5)", "offer(100, 1, 0, 6)", "offer(100, 11, 0, 1)").due("plan(1000)", 1);
        on("story(1, 1, 10)", "offer(100, 11, 0, 1)").due("plan(1000)", 0);
        on("story(0, 1, 10)", "offer(100, 1, 0, 1)", "offer(1, 1, 99, 1)").due("plan(1000)", 0);
        on("offer(100, 1, 0, 1)", "offer(1, 1, 99, 1)").due("plan(1000)", 0);
        // What says more by a millionth is taken at any price.
        on("story(1, 0, 10)", "offer(0, 1, 99, 1)", "offer(0, 1, 99, 1)", "offer(0, 1, 99, 1)", "offer(0, 1, 99, 100)",
            "offer(0, 1, 1, 100)").due("plan(2)", 3).due("plan(3)", 7).due("plan(102)", 7).due("plan(103)", 15).due("plan(1000)", 15);
    }
}
