/** Terms II at their bounds: the TAPE, the LAW's TEXT and its FAULTS, what it tells of a SIGHT, ODDS, SPANS. */
public final class LawEdgeTest {
    private static final Check C = new Check("LawEdgeTest");

    /** SIGHT 0: gone 12, humps 2, length 150, wind 3, bend 0, news 7, place 4, minute 604, late 5. */
    private static final String[] ASKED = {"watcher(1)", "day(20, 0, 3)", "day(20, 2, 7)", "boat(20, 0, 588, 1)",
        "sight(20, 604, 4, 0, 2, 150, 25)"};

    public static void main(String[] args) {
        promise9TheTapeIsFull();
        promise9BytesComeInOrder();
        promise10End();
        promise13Tokens();
        promise13TwelveClauses();
        promise13Numbers();
        promise13FiftyParts();
        promise13EightBrackets();
        promise13FaultAtTheEnd();
        promise13FaultAtATokenThatCantGoOn();
        promise13TheOneBeforeStays();
        promise13LawsOneAfterTheOther();
        promise14AheadOfAny();
        goneAtItsBounds();
        aThousandMillions();
        aDivisionByNothing();
        cutTowardsNothing();
        comparisons();
        orAndAnd();
        words();
        theLastThatHolds();
        promise15Grew();
        promise16Weights();
        promise17Odds();
        promise18Unknown();
        promise19Span();
        promise20Most();
        C.done();
    }

    private static Run on(String... setup) {
        return new Run(C, setup);
    }

    private static void promise9TheTapeIsFull() {
        Run run = on();
        for (int n = 1; n <= 20; n++) {
            run.due("feed(" + n + ", 2, 3, 4, 5)", 20 * n).due("count(10)", 20 * n);
        }
        run.cannot("feed(1, 2, 3, 4, 5)", -1).due("count(10)", 400);
        run.due("end(399)", 399).cannot("feed(0, 0, 0, 0, 0)", -1);
        run.due("end(381)", 381).cannot("feed(0, 0, 0, 0, 0)", -1);
        run.due("end(380)", 380).due("feed(0, 0, 0, 0, 0)", 400).cannot("feed(0, 0, 0, 0, 0)", -1);
        run.refused("watcher(101)", -1).leavesRefusals("feed(0, 0, 0, 0, 0)", -1).leavesRefusals("end(1)", 1)
            .leavesRefusals("feed(0, 0, 0, 0, 0)", 21).leavesRefusals("end(22)", -1).due("status()", -1);
    }

    private static void promise9BytesComeInOrder() {
        // 200 stands as a length in the first to the fourth byte of a number.
        int[] rows = new int[28];
        for (int row = 0; row < 4; row++) {
            rows[row * 7] = 10 + row;
            rows[row * 7 + 5] = 200;
        }
        Run run = on("watcher(1)").feed(rows).due("row()", 4);
        for (int sight = 0; sight < 4; sight++) {
            run.dues("of(" + sight + ", #)", 0, 10 + sight, 0, 0, 0, 0, 200, 10 + sight);
        }
        on().due("feed(1835099237, 540090400, 538976288, 538976288, 538976288)", 20).due("law()", 1);
        on().due("feed(-1, -1, -1, -1, -1)", 20).due("law()", -6).due("fault()", 0);
    }

    private static void promise10End() {
        on().due("end(0)", 0).cannot("end(1)", -1).cannot("end(-1)", -1);
        Run run = on().due("feed(0, 0, 0, 0, 0)", 20);
        run.cannot("end(21)", -1).cannot("end(-1)", -1).cannot("end(2147483647)", -1).cannot("end(-2147483648)", -1);
        run.due("end(20)", 20).due("end(19)", 19).cannot("end(20)", -1).due("end(0)", 0).due("count(10)", 0)
            .cannot("end(1)", -1);
        // The first bytes alone stay, and what comes then stands right behind them: "grow 7" and "9;grow 8".
        Run text = on(ASKED).feed("grow 7111").due("end(6)", 6);
        text.due("feed(960194418, 1870078008, 538976288, 538976288, 538976288)", 26).due("end(7)", 7).due("law()", 1)
            .due("of(0, 8)", 79);
    }

    private static void promise13Tokens() {
        on().law("wake1if1=1and2=2or3=3;made2", 2);
        on().law("   wake   1   if   1   =   1   ;   made   2   ", 2);
        on().law("made[[1]+[2*3]]if(humps<3)and not(length>2)", 1);
        on().law("made humps+length-wind*bend/news+gone-place*minute/late", 1);
        on().law("wake 1;beast 1;log 1;bent 1;made 1;grow 1", 6);
        on().fault("wake\t1", 4).fault("wake 1\n", 6).fault("\u0000wake 1", 0).fault("wake\u00a01", 4);
        on().fault("made 1\u0000", 6).fault("made\u00ff1", 4).fault("Made 1", 0).fault("made 1 If 1=1", 7);
        // The signs right beside the letters and the digits: each is a token of its own.
        on().fault("made{1", 4).fault("made`1", 4).fault("made 1:", 6).fault("made 1:2", 6).fault("{made 1", 0)
            .fault("made 1 if a=1", 10).fault("made z", 5).fault("made@1", 4).fault("madeA", 4).fault("madeZ", 4)
            .law("made 9/1", 1).law("made 0+9", 1).law("made 1;made 2", 2);
        on().fault("mad e 1", 0).fault("made1 0", 6).fault("madehumps", 0).fault("made humpslate", 5);
        on().fault("made hump s", 5).fault("made 1 i f 1=1", 7).fault("made 1 if 1 = = 1", 14).fault("made 1 ifnot 1=1", 7);
    }

    private static void promise13TwelveClauses() {
        on(ASKED).law("grow 1;".repeat(11) + "grow 9", 12).due("of(0, 8)", 9);
        on(ASKED).law("grow 1;".repeat(10) + "grow 9", 11).due("of(0, 8)", 9);
        on().fault("grow 1;".repeat(12) + "grow 9", 84).due("count(6)", 0);
        on().fault("grow 1;".repeat(12) + "   grow 9", 87);
        on().fault("grow 1;".repeat(12), 84).fault("grow 1;".repeat(12) + "  ", 86);
        on().fault("grow 1;".repeat(12) + ";", 84).fault("grow 1;".repeat(12) + "7", 84);
        on().fault("grow 1;".repeat(11) + "grow 1 7", 84).fault("grow 1;".repeat(11), 77);
        on().fault("grow 1;".repeat(15) + "x", 84);
    }

    private static void promise13Numbers() {
        on().law("made 0", 1).law("made 100000", 1).law("made 00000000000000100000", 1).law("made 99999", 1)
            .law("made 1 if 100000=100000", 1).law("made [100000]", 1);
        on().fault("made 100001", 5).fault("made 1+100001", 7).fault("made 1 if 100001=1", 10)
            .fault("made 1 if 1=100001", 12).fault("made [100001]", 6).fault("made 1000000", 5)
            .fault("made 4294967296", 5).fault("made 4294967297", 5).fault("made 18446744073709551617", 5)
            .fault("made 0100001", 5);
        on().law("made " + "0".repeat(389) + "100000", 1).fault("made " + "0".repeat(389) + "100001", 5)
            .fault("made " + "9".repeat(395), 5).fault("9".repeat(400), 0);
    }

    private static void promise13FiftyParts() {
        on().law("made 1" + "+1".repeat(49), 1).fault("made 1" + "+1".repeat(50), 105);
        on().law("made late" + "-late".repeat(49), 1).fault("made late" + "-late".repeat(50), 255);
        on().law("made 1" + "+1".repeat(48) + "+late", 1).fault("made 1" + "+1".repeat(49) + "+late", 105)
            .fault("made 1" + "+1".repeat(49) + " + 100001", 107).fault("made 1" + "+1".repeat(49) + "+if", 105);
        // Through the whole text: in every clause, in sums and in tests, in brackets too.
        on().law("made 1;".repeat(11) + "made 1" + "+1".repeat(38), 12)
            .fault("made 1;".repeat(11) + "made 1" + "+1".repeat(39), 160);
        on().law("made 1 if 1" + "+1".repeat(47) + "=1", 1).fault("made 1 if 1" + "+1".repeat(48) + "=1", 108);
        on().law("made [1" + "+1".repeat(48) + "]+1", 1).fault("made [1" + "+1".repeat(49) + "]+1", 107);
        on().law("made 1 if (1=1)" + " or (1=1)".repeat(22) + " or 1<[2]+3", 1);
        on().fault("made 1 if (1=1)" + " or (1=1)".repeat(22) + " or 1<[2]+3+4", 225);
        on(ASKED).law("grow 1" + "+1".repeat(49), 1).due("of(0, 8)", 50);
        on(ASKED).law("grow 50" + "-1".repeat(49), 1).due("of(0, 8)", 1);
        // None of an earlier text is counted.
        on().law("made 1" + "+1".repeat(49), 1).law("made 1" + "+1".repeat(49), 1)
            .fault("made 1" + "+1".repeat(50), 105).law("made 1" + "+1".repeat(49), 1);
    }

    private static String within(String open, int deep, String inside, String close) {
        return open.repeat(deep) + inside + close.repeat(deep);
    }

    private static void promise13EightBrackets() {
        on().law("made " + within("[", 8, "1", "]"), 1).fault("made " + within("[", 9, "1", "]"), 13);
        on().law("made 1 if " + within("(", 8, "1=1", ")"), 1).fault("made 1 if " + within("(", 9, "1=1", ")"), 18);
        for (int round = 0; round <= 8; round++) {
            int square = 8 - round;
            String left = "made 1 if " + within("(", round, within("[", square, "1", "]") + "=1", ")");
            String right = "made 1 if " + within("(", round, "1=" + within("[", square, "1", "]"), ")");
            on().law(left, 1).law(right, 1);
            String ninth = "made 1 if " + within("(", round, within("[", square + 1, "1", "]") + "=1", ")");
            on().fault(ninth, 18);
            on().fault("made 1 if " + within("(", round, "1=" + within("[", square + 1, "1", "]"), ")"), 20);
        }
        // Those that are closed count no more.
        String eight = within("[", 8, "1", "]");
        on().law("made " + eight + "+" + eight + " if " + eight + "<" + eight + " and " + within("(", 8, "1=1", ")"), 1);
        on().fault("made " + eight + "+[" + eight + "]", 31);
        on().law("made 1;made " + eight + ";made " + eight, 3).fault("made " + within("[", 9, "x", "]"), 13);
        on().fault("made " + "[".repeat(395), 13).fault("made 1 if " + "(".repeat(390), 18);
        on().fault("made 1 if " + "(".repeat(8) + "[".repeat(382), 18);
    }

    private static void promise13FaultAtTheEnd() {
        on().due("law()", -6).due("fault()", 0).due("status()", -6).dues("count(#)", 11, 0, 0, 0, 1);
        on().fault(" ", 1).fault("  ", 2).fault(" ".repeat(19), 19).fault(" ".repeat(20), 20).fault(" ".repeat(21), 21)
            .fault(" ".repeat(400), 400);
        on().fault("made", 4).fault("made ", 5).fault("made 1+", 7).fault("made 1+  ", 9).fault("made [1", 7)
            .fault("made 1 if", 9).fault("made 1 if 1", 11).fault("made 1 if 1=", 12).fault("made 1 if (1=1", 14)
            .fault("made 1 if not", 13).fault("made 1 if 1=1 and", 17).fault("made 1 if 1=1 or", 16).fault("made 1;", 7)
            .fault("made 1; ", 8).fault("made 1 if [1", 12).fault("made 1*", 7);
        on().law("made 1" + " ".repeat(394), 1).fault("made " + " ".repeat(395), 400).fault("made 1;" + " ".repeat(393), 400)
            .law(" ".repeat(394) + "made 1", 1);
    }

    private static void promise13FaultAtATokenThatCantGoOn() {
        on().fault("1", 0).fault(";made 1", 0).fault("if 1=1", 0).fault("humps", 0).fault("wakes 1", 0).fault("wak 1", 0);
        on().fault("made made", 5).fault("made -1", 5).fault("made (1)", 5).fault("made []", 6).fault("made 1 2", 7);
        on().fault("made 1 humps", 7).fault("made 1]", 6).fault("made [1)", 7).fault("made [1=1]", 7);
        on().fault("made 1=1", 6).fault("made 1 and 1", 7).fault("made 1**2", 7).fault("made 1+-2", 7);
        on().fault("made 1 if 1 and 1=1", 12).fault("made 1 if 1<2<3", 13).fault("made 1 if 1<=2", 12);
        on().fault("made 1 if 1 2", 12).fault("made 1 if 1[2]", 11).fault("made 1 if humps late", 16)
            .fault("made 1 if 1=1 2=2", 14).fault("made 1[2]", 6).fault("made 1 if 1;made 2", 11);
        on().fault("made 1 if (1)=1", 12).fault("made 1 if [1=1]", 12).fault("made 1 if [(1=1)]", 11);
        on().fault("made 1 if 1=1)", 13).fault("made 1 if (1=1]", 14).fault("made 1 if 1=(1)", 12);
        on().fault("made 1 if 1=1 not 1=1", 14).fault("made 1 if 1=1 if 1=1", 14).fault("made 1 if 1=not 1", 12);
        on().fault("made 1 if (1=1)=1", 15).fault("made 1 if ()", 11).fault("made 1 if 1=1 or and 1=1", 17);
        on().fault("made 1;;made 1", 7).fault("made 1; 2", 8).fault("made 1 made 2", 7).fault("made if 1=1", 5);
        on().law("made 1 if not not not (not 1=1 or not (1=2 and 2=3)) and 1=1", 1);
        on().law("made 1 if " + "not ".repeat(96) + "1=1", 1).fault("made 1 if " + "not ".repeat(97), 398);
    }

    private static void promise13TheOneBeforeStays() {
        Run run = on(ASKED).law("wake 1;grow 50", 2);
        run.fault("grow 60;made", 12).due("count(6)", 2).due("of(0, 8)", 50).due("odds(0, 0, 0)", 1);
        run.fault("   ", 3).due("count(6)", 2).due("of(0, 8)", 50);
        run.due("law()", -6).due("fault()", 0).due("count(6)", 2).due("of(0, 8)", 50);
        run.law("grow 70", 1).due("of(0, 8)", 70).due("odds(0, 0, 0)", -1);
    }

    /** Nothing of an earlier law is left, be it long or broken. */
    private static void promise13LawsOneAfterTheOther() {
        Run run = on(ASKED);
        for (int n = 1; n <= 30; n++) {
            run.due("end(0)", 0).feed("grow " + n + "+0".repeat(49)).due("law()", 1).due("of(0, 8)", n);
        }
        run.law("grow 7 if 1=1 and [1+[2+[3*[1/0]]]]=1", 1);
        for (int n = 0; n < 70; n++) {
            run.due("of(0, 8)", 100);
        }
        run.law("grow 1+2+3", 1).due("of(0, 8)", 6);
    }

    private static void promise14AheadOfAny() {
        on().due("fault()", -1).due("watcher(1)", 0).due("fault()", -1).due("row()", -6).due("fault()", -1);
        on().fault("x", 0).law("made 1", 1).due("fault()", -1).fault("made 1 x", 7).due("row()", -6).due("fault()", 7);
        on("image(0)").fault("made", 4).due("back(0)", 0).due("fault()", 4);
    }

    private static void goneAtItsBounds() {
        int[] minutes = {99, 100, 101, 159, 160, 161};
        int[] gone = {0, 0, 1, 59, 60, 61};
        for (int n = 0; n < minutes.length; n++) {
            boolean isWake = gone[n] >= 1 && gone[n] <= 60;
            Run run = on("watcher(1)", "boat(0, 0, 100, 1)", "sight(0, " + minutes[n] + ", 0, 0, 0, 1, 0)");
            run.due("of(0, 7)", gone[n]).due("there(0)", isWake ? 17 : 16).law("wake 3;made 1;grow gone+7", 3);
            run.due("of(0, 8)", gone[n] + 7).due("odds(0, 0, 0)", isWake ? 3 : 0).due("odds(0, 0, 1)", isWake ? 4 : 1);
        }
    }

    /** What a "grow" of this tells: 100 without, if it is broken or its test is not so. */
    private static void tells(String sum, int want) {
        on(ASKED).law("grow " + sum, 1).due("of(0, 8)", want);
    }

    private static void aThousandMillions() {
        tells("100000*10000", 1000);
        tells("100000*10000/100000*0+7", 7);
        tells("100000*10000/100000/1000", 10);
        tells("99999*10000+10000", 1000);
        tells("99999*10000+10001", 100);
        tells("100000*10000+1", 100);
        tells("100000*10000+1-1", 100);
        tells("0-100000*10000", 1);
        tells("0-99999*10000-10000", 1);
        tells("0-99999*10000-10001", 100);
        tells("0-100000*10000-1", 100);
        tells("0-100000*10000-1+1", 100);
        tells("31622*31622", 1000);
        tells("31623*31623", 100);
        tells("100000*10001", 100);
        tells("[0-100000]*10000", 1);
        tells("[0-100000]*10001", 100);
        tells("100000*[0-10001]", 100);
        tells("[0-100000]*[0-10000]", 1000);
        tells("[0-100000]*[0-10001]", 100);
        tells("100000*100000", 100);
        tells("100000*100000/100000/100000", 100);
        tells("7+0*[100000*10001]", 100);
        tells("[100000*10000]-[100000*10000]+7", 7);
        tells("7 if 100000*10000>0", 7);
        tells("7 if 100000*10001>0", 100);
        tells("7 if 0<100000*10001", 100);
        tells("7 if not 100000*10001<0", 100);
    }

    private static void aDivisionByNothing() {
        tells("7/0", 100);
        tells("0/0", 100);
        tells("7/bend", 100);
        tells("7/[1-1]", 100);
        tells("7+0*[1/0]", 100);
        tells("7/1", 7);
        tells("0/7+3", 3);
        tells("7 if 1/0=0", 100);
        tells("7 if not 1/0=0", 100);
        tells("7 if 0=1/0", 100);
        tells("1/0 if 1=1", 100);
    }

    private static void cutTowardsNothing() {
        tells("7/2", 3);
        tells("[0-7]/2+10", 7);
        tells("7/[0-2]+10", 7);
        tells("[0-7]/[0-2]", 3);
        tells("[0-1]/2+10", 10);
        tells("1/[0-2]+10", 10);
        tells("[0-8]/2+10", 6);
        tells("7/2*2", 6);
        tells("7*2/2", 7);
        tells("100/7/2", 7);
    }

    private static void comparisons() {
        tells("7 if 1<2", 7);
        tells("7 if 2<2", 100);
        tells("7 if 3<2", 100);
        tells("7 if 1>2", 100);
        tells("7 if 2>2", 100);
        tells("7 if 3>2", 7);
        tells("7 if 1=2", 100);
        tells("7 if 2=2", 7);
        tells("7 if 3=2", 100);
        tells("7 if 0-1<0", 7);
        tells("7 if 0>0-1", 7);
        tells("7 if 100000*10000>0-100000*10000", 7);
        tells("7 if 0-100000*10000<100000*10000", 7);
        tells("7 if not 1<2", 100);
        tells("7 if not 2<1", 7);
        tells("7 if not not 1<2", 7);
        tells("7 if not not not 1<2", 100);
    }

    /** What stands behind is asked only if it can still matter; it is broken, so that one sees whether it was. */
    private static void orAndAnd() {
        tells("7 if 1=1 or 1/0=1", 7);
        tells("7 if 1=2 or 1/0=1", 100);
        tells("7 if 1/0=1 or 1=1", 100);
        tells("7 if 1=2 and 1/0=1", 100);
        tells("7 if not (1=2 and 1/0=1)", 7);
        tells("7 if not (1=1 and 1/0=1)", 100);
        tells("7 if not (1/0=1 and 1=2)", 100);
        tells("7 if 1=2 or 1=1 or 1/0=1", 7);
        tells("7 if 1=1 or 1=2 or 1/0=1", 7);
        tells("7 if 1=2 or 1=2 or 1/0=1", 100);
        tells("7 if 1=2 or 1/0=1 or 1=1", 100);
        tells("7 if not (1=1 and 1=2 and 1/0=1)", 7);
        tells("7 if not (1=1 and 1/0=1 and 1=2)", 100);
        tells("7 if 1=2 and 1/0=1 or 1=1", 7);
        tells("7 if 1=1 or 1/0=1 and 1/0=1", 7);
        tells("7 if 1=1 and (1=1 or 1/0=1)", 7);
        tells("7 if (1=1 or 1/0=1) and 1=1", 7);
        tells("7 if (1=1 or 1/0=1) and 1=2", 100);
        tells("7 if not (not 1=1 and 1/0=1)", 7);
        tells("7 if (1=2 or 1=1 and 1/0=1) or 1=1", 100);
        tells("7 if 1=1 or 1=1 and 1=2", 7);
        tells("7 if (1=1 or 1=1) and 1=2", 100);
        tells("7 if not 1=2 and 1=2", 100);
        tells("7 if not 1=1 or 1=1", 7);
    }

    /** Each at its least and its greatest; gone is a DAY's MINUTES at most. */
    private static void words() {
        String[] least = {"watcher(1)", "sight(0, 0, 0, 0, 0, 1, 0)"};
        String[] greatest = {"watcher(1)", "day(0, 0, 9)", "day(0, 1, 8)", "day(0, 2, 7)", "boat(0, 1, 0, 1)",
            "sight(0, 1439, 23, 0, 9, 200, 59)"};
        String[] names = {"humps", "length", "wind", "bend", "news", "gone", "place", "minute", "late"};
        int[] small = {0, 1, 0, 0, 0, 0, 0, 0, 0};
        int[] large = {9, 200, 9, 8, 7, 1439, 23, 1439, 59};
        for (int n = 0; n < names.length; n++) {
            on(least).law("grow 7+" + names[n], 1).due("of(0, 8)", 7 + small[n]);
            on(greatest).law("grow 7+" + names[n] + "/3", 1).due("of(0, 8)", 7 + large[n] / 3);
            on(greatest).law("grow 7 if " + names[n] + "=" + large[n], 1).due("of(0, 8)", 7);
        }
    }

    private static void theLastThatHolds() {
        on(ASKED).law("grow 5;grow 6", 2).due("of(0, 8)", 6);
        on(ASKED).law("grow 5;grow 6 if 1=2", 2).due("of(0, 8)", 5);
        on(ASKED).law("grow 5;grow 1/0", 2).due("of(0, 8)", 5);
        on(ASKED).law("grow 5;grow 6 if 1/0=1", 2).due("of(0, 8)", 5);
        on(ASKED).law("grow 5;grow 1/0 if 1=2", 2).due("of(0, 8)", 5);
        on(ASKED).law("grow 5 if 1=2", 1).due("of(0, 8)", 100);
        on(ASKED).law("wake 5;wake 0;made 1", 3).due("odds(0, 0, 0)", 0);
        on(ASKED).law("wake 0;made 1;wake 5", 3).due("odds(0, 0, 0)", 5);
        on(ASKED).law("wake 5;made 1;wake 1/0;wake 9 if 1=2", 4).due("odds(0, 0, 0)", 5);
    }

    private static void promise15Grew() {
        tells("0-1", 1);
        tells("0", 1);
        tells("1", 1);
        tells("2", 2);
        tells("999", 999);
        tells("1000", 1000);
        tells("1001", 1000);
        tells("100000", 1000);
        tells("humps", 2);
        tells("length", 150);
        tells("wind", 3);
        tells("bend", 1);
        tells("news", 7);
        tells("gone", 12);
        tells("place", 4);
        tells("minute", 604);
        tells("late", 5);
        on(ASKED).law("made 7", 1).due("of(0, 8)", 100);
        on(ASKED).cannot("of(1, 0)", -1).cannot("of(-1, 0)", -1).cannot("of(0, -1)", -1).cannot("of(0, 9)", -1)
            .cannot("of(40, 0)", -1);
        on("watcher(1)", "sight(59, 0, 0, 0, 0, 1, 59)").law("grow late+7", 1).due("of(0, 8)", 7);
        on("watcher(1)", "sight(0, 0, 0, 0, 0, 1, 59)").law("grow late+7", 1).due("of(0, 8)", 66);
    }

    /** ODDS of a WAKE beside a MADE of 1000, all that is there. */
    private static void wake(String tells, int upper, int lower) {
        on(ASKED).law("made 1000;wake " + tells, 2).due("odds(0, 0, 0)", upper).due("odds(0, 0, 1)", lower);
    }

    private static void promise16Weights() {
        wake("0-100000", 0, 1);
        wake("0-1", 0, 1);
        wake("0", 0, 1);
        wake("1", 1, 1001);
        wake("999", 999, 1999);
        wake("1000", 1, 2);
        wake("1001", 1, 2);
        wake("100000", 1, 2);
        wake("5 if 1=2", 0, 1);
        wake("1/0", 0, 1);
        // Not there: it weighs nothing, whatever the law tells.
        on(ASKED).law("made 1;beast 1000;log 1000;bent 1000", 4).due("odds(0, 4, 0)", 1).due("odds(0, 4, 1)", 1)
            .dues("odds(0, #, 0)", 0, 0, 0, 0, 0, 1);
    }

    private static void promise17Odds() {
        Run all = on("watcher(1)", "boat(1, 0, 0, 1)", "beast(1, 5, 0, 50)", "log(1, 5)", "day(1, 1, 1)",
            "sight(1, 20, 5, 0, 0, 1, 1)");
        all.dues("odds(0, #, 0)", 0, -1, -1, -1, -1, -1).dues("odds(0, #, 1)", 0, -1, -1, -1, -1, -1);
        all.law("wake 1000;beast 1000;log 1000;bent 1000;made 1000", 5).dues("odds(0, #, 0)", 0, 1, 1, 1, 1, 1)
            .dues("odds(0, #, 1)", 0, 5, 5, 5, 5, 5);
        all.law("wake 1;beast 2;log 3;bent 4;made 0", 5).dues("odds(0, #, 0)", 0, 1, 1, 3, 2, 0)
            .dues("odds(0, #, 1)", 0, 10, 5, 10, 5, 1);
        all.law("bent 1000", 1).dues("odds(0, #, 0)", 0, 0, 0, 0, 1, 0).dues("odds(0, #, 1)", 0, 1, 1, 1, 1, 1);
        all.law("bent 1000;log 999", 2).due("odds(0, 2, 0)", 999).due("odds(0, 2, 1)", 1999);
        all.cannot("odds(1, 0, 0)", -1).cannot("odds(-1, 0, 0)", -1).cannot("odds(0, -1, 0)", -1)
            .cannot("odds(0, 5, 0)", -1).cannot("odds(0, 0, -1)", -1).cannot("odds(0, 0, 2)", -1);
        all.law("made 0", 1).cannot("odds(0, 4, 0)", -1).cannot("odds(0, 4, 1)", -1).cannot("odds(0, 0, 0)", -1);
    }

    private static void promise18Unknown() {
        Run run = on("watcher(1)", "log(1, 0)");
        run.due("unknown(0, 0)", 0).cannot("unknown(1, 0)", -1);
        for (int n = 0; n < 40; n++) {
            run.due("sight(" + (n == 1 || n == 38 ? 1 : 0) + ", 0, 0, 0, 0, 1, 5)", n);
        }
        run.due("unknown(0, 0)", 40).due("unknown(1, 0)", 0).due("unknown(1, 39)", 39).cannot("unknown(1, 40)", -1);
        run.law("log 5", 1).due("unknown(0, 0)", 38).dues("unknown(1, #)", 0, 0, 2, 3).due("unknown(1, 36)", 37)
            .due("unknown(1, 37)", 39).cannot("unknown(1, 38)", -1).cannot("unknown(1, -1)", -1);
        run.cannot("unknown(-1, 0)", -1).cannot("unknown(2, 0)", -1);
        run.law("made 1", 1).due("unknown(0, 0)", 0).cannot("unknown(1, 0)", -1);
        run.law("made 0", 1).due("unknown(0, 0)", 40);
        run.law("made 0-1", 1).due("unknown(0, 0)", 40);
        run.law("made 1/0", 1).due("unknown(0, 0)", 40);
        run.law("made 5;made 0", 2).due("unknown(0, 0)", 40);
        run.law("grow 9;wake 1000;beast 1000;bent 1000", 4).due("unknown(0, 0)", 40);
    }

    private static void promise19Span() {
        Run run = on("watcher(1)", "watcher(1)", "sight(0, 0, 0, 0, 0, 33, 0)", "sight(0, 0, 0, 1, 0, 200, 0)");
        run.dues("span(0, #)", 0, 33, 33).dues("span(1, #)", 0, 200, 200);
        run.law("grow 300", 1).dues("span(0, #)", 0, 11, 11).dues("span(1, #)", 0, 66, 66);
        run.due("pole(0, 2, 3)", 0).dues("span(0, #)", 0, 7, 7).dues("span(1, #)", 0, 44, 44);
        run.due("pole(0, 7, 4)", 1).dues("span(0, #)", 0, 7, 19).dues("span(1, #)", 0, 44, 116);
        run.due("pole(1, 1, 200)", 2).dues("span(1, #)", 0, 0, 0).dues("span(0, #)", 0, 7, 19);
        run.law("grow 1", 1).dues("span(0, #)", 0, 2200, 5775).dues("span(1, #)", 0, 100, 100);
        run.cannot("span(0, -1)", -1).cannot("span(0, 2)", -1).cannot("span(2, 0)", -1).cannot("span(-1, 0)", -1);
        Run most = on("watcher(1)", "sight(0, 0, 0, 0, 0, 200, 0)", "pole(0, 99, 1)");
        most.law("grow 1", 1).dues("span(0, #)", 0, 1980000, 1980000);
        most.law("grow 1000", 1).dues("span(0, #)", 0, 1980, 1980);
        // Cut once, at the end: 7 times 100 times 5 through 100 times 3 is 11 and two thirds.
        on("watcher(1)", "sight(0, 0, 0, 0, 0, 7, 0)", "pole(0, 5, 3)").dues("span(0, #)", 0, 11, 11);
    }

    private static void promise20Most() {
        Run run = on("watcher(1)", "boat(1, 0, 0, 1)", "beast(1, 5, 0, 50)", "log(1, 5)", "day(1, 1, 1)",
            "sight(1, 20, 5, 0, 0, 1, 1)", "sight(0, 0, 0, 0, 0, 1, 1)");
        run.dues("most(#)", -1, -1, 0, 0, 0, 0, 0, -1);
        run.law("wake 5;beast 5;log 5;bent 5;made 5", 5).dues("most(#)", 0, 1, 0, 0, 0, 1);
        run.law("wake 4;beast 5;log 5;bent 5;made 5", 5).dues("most(#)", 0, 0, 1, 0, 0, 1);
        run.law("wake 4;beast 4;log 5;bent 5;made 5", 5).dues("most(#)", 0, 0, 0, 1, 0, 1);
        run.law("wake 4;beast 4;log 4;bent 5;made 5", 5).dues("most(#)", 0, 0, 0, 0, 1, 1);
        run.law("wake 4;beast 4;log 4;bent 4;made 5", 5).dues("most(#)", 0, 0, 0, 0, 0, 2);
        run.law("wake 1001;made 1000", 2).dues("most(#)", 0, 1, 0, 0, 0, 1);
        run.law("log 1", 1).dues("most(#)", 0, 0, 0, 1, 0, 0);
        run.cannot("most(-1)", -1).cannot("most(5)", -1);
    }
}
