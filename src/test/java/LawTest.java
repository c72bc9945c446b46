/** Promises 13, 14, 17, 18 and 20, and of 15 the part that the law tells. */
public final class LawTest {
    private static final Check C = new Check("LawTest");

    public static void main(String[] args) {
        goodTexts();
        faults();
        limits();
        sums();
        tests();
        broken();
        weights();
        unknownAndMost();
        theOneBeforeStays();
        manyLaws();
        C.done();
    }

    private static void good(String text, int clauses) {
        LakeWatch x = new LakeWatch();
        Tapes.put(x, text);
        C.due("law() of " + text, x.law(), clauses);
        C.due("status() of " + text, x.status(), 0);
        C.due("fault() of " + text, x.fault(), -1);
        C.due("count(6) of " + text, x.count(6), clauses);
        C.due("count(10) of " + text, x.count(10), 0);
    }

    private static void bad(String text, int place) {
        LakeWatch x = new LakeWatch();
        Tapes.put(x, text);
        C.refused("law() of " + text, x, Check.refusals(x), x.law(), -6);
        C.due("fault() of " + text, x.fault(), place);
        C.due("count(6) of " + text, x.count(6), 0);
        C.due("count(10) of " + text, x.count(10), 0);
    }

    private static void goodTexts() {
        good("wake 1", 1);
        good("   wake1  ", 1);
        good("wake1;beast 2;log 3;bent 4;made 5;grow 6", 6);
        good("made humps+length-wind*bend/news+gone-place*minute/late", 1);
        good("made[[1]+[2*3]]if(humps<3)", 1);
        good("made 1 if not humps < 3 and (length > 2 or not not (wind = 1)) or 1 = 1", 1);
        good("made 100000", 1);
        good("made 0000000000000000000000000000000000000001", 1);
        good("made 1 if [1]<[2] and (([1]<2) and 3=[[[4]]])", 1);
    }

    private static void faults() {
        bad("", 0);
        bad("   ", 3);
        bad("wake", 4);
        bad("wake ", 5);
        bad("wak 1", 0);
        bad("  wakes 1", 2);
        bad("Wake 1", 0);
        bad("1", 0);
        bad(";wake 1", 0);
        bad("wake 1;", 7);
        bad("wake 1; ", 8);
        bad("wake 1;;wake 1", 7);
        bad("wake 1 wake 2", 7);
        bad("wake 1 2", 7);
        bad("wake 1x", 6);
        bad("wake 1 iff 1=1", 7);
        bad("wake 1if", 8);
        bad("wakeif", 0);
        bad("wake wake", 5);
        bad("wake -1", 5);
        bad("wake 1+", 7);
        bad("wake 1+*2", 7);
        bad("wake 1**2", 7);
        bad("wake (1)", 5);
        bad("wake [1", 7);
        bad("wake [1)", 7);
        bad("wake []", 6);
        bad("wake [1<2]", 7);
        bad("wake 1]", 6);
        bad("wake 1 if 1", 11);
        bad("wake 1 if 1<", 12);
        bad("wake 1 if 1<2<3", 13);
        bad("wake 1 if 1<=2", 12);
        bad("wake 1 if (1<2", 14);
        bad("wake 1 if (1<2]", 14);
        bad("wake 1 if (1)<2", 12);
        bad("wake 1 if [1<2]", 12);
        bad("wake 1 if [(1<2)]", 11);
        bad("wake 1 if and", 10);
        bad("wake 1 if 1<2 and", 17);
        bad("wake 1 if 1<2 or or", 17);
        bad("wake 1 if not", 13);
        bad("wake 1 if 1<2 not 1<2", 14);
        bad("wake 1 if 1<2 if 1<2", 14);
        bad("wake 1 if 1<2)", 13);
        bad("wake 100001", 5);
        bad("wake 1+ 4294967297", 8);
        bad("wake 18446744073709551617", 5);
        bad("wake \t1", 5);
        bad("wake 1\n", 6);
        bad("wake \u00e9", 5);
        bad("wake hump", 5);
        bad("wake not", 5);
        bad("wake 1.5", 6);
    }

    private static String often(String text, int times) {
        return text.repeat(times);
    }

    private static void limits() {
        good(often("made 1;", 11) + "made 1", 12);
        bad(often("made 1;", 12) + " made 1", 85);
        bad(often("made 1;", 12) + "x", 84);
        bad(often("made 1;", 12), 84);
        good("made 1" + often("+1", 49), 1);
        bad("made 1" + often("+1", 50), 5 + 100);
        good("made " + often("humps*", 49) + "1", 1);
        bad("made " + often("humps*", 50) + " late", 5 + 301);
        good("made 1" + often("+1", 24) + ";made 1" + often("+1", 24), 2);
        bad("made 1" + often("+1", 24) + ";made 1" + often("+1", 25), 54 + 1 + 6 + 49);
        bad("made 1" + often("+1", 49) + "+]", 105);
        bad("made 1" + often("+1", 47) + " if 1<[2]+3", 54 + 46 + 10);
        good("made " + often("[", 8) + "1" + often("]", 8), 1);
        bad("made " + often("[", 9) + "1" + often("]", 9), 13);
        good("made " + often("[", 8) + "1" + often("]", 8) + "+" + often("[", 8) + "1" + often("]", 8), 1);
        good("made 1 if " + often("(", 8) + "1<2" + often(")", 8), 1);
        bad("made 1 if " + often("(", 9) + "1<2" + often(")", 9), 18);
        good("made 1 if " + often("(", 4) + often("[", 4) + "1" + often("]", 4) + "<2" + often(")", 4), 1);
        bad("made 1 if " + often("(", 4) + often("[", 5) + "1" + often("]", 5) + "<2" + often(")", 4), 18);
        bad("made 1 if " + often("(", 4) + "1<" + often("[", 5) + "1" + often("]", 5) + often(")", 4), 20);
        good("made 1 if " + often("not ", 96) + "1=1", 1);
        good("made 1" + often(" ", 394), 1);
        bad(often(" ", 400), 400);
        bad("made 1;" + often(" ", 393), 400);
        bad(often("1", 400), 0);
        good("made " + often("0", 394) + "1", 1);
        bad("made " + often("(", 395), 5);
        bad("made " + often("[", 395), 13);
        bad("made 1 if " + often("(", 390), 18);
    }

    /** A sight on a day with wind 3, bend 0, news 7: a boat went by 12 minutes ago, told 5 days behind. */
    private static LakeWatch asked() {
        LakeWatch x = new LakeWatch();
        x.watcher(1);
        x.day(20, 0, 3);
        x.day(20, 2, 7);
        x.boat(20, 0, 588, 1);
        x.sight(20, 604, 4, 0, 2, 150, 25);
        return x;
    }

    private static void sum(String text, int want) {
        C.due("grow " + text, Tapes.grewBy(asked(), 0, text), want);
    }

    private static void sums() {
        sum("5", 5);
        sum("humps", 2);
        sum("length", 150);
        sum("wind", 3);
        sum("bend+1", 1);
        sum("bend", 1);
        sum("news", 7);
        sum("gone", 12);
        sum("place", 4);
        sum("minute", 604);
        sum("late", 5);
        sum("10-3-2", 5);
        sum("10-[3-2]", 9);
        sum("2+3*4", 14);
        sum("[2+3]*4", 20);
        sum("100/7/2", 7);
        sum("100/[7/2]", 33);
        sum("7/2*2", 6);
        sum("[0-7]/2+10", 7);
        sum("7/[0-2]+10", 7);
        sum("[0-7]/[0-2]", 3);
        sum("1000", 1000);
        sum("1001", 1000);
        sum("100000", 1000);
        sum("0", 1);
        sum("0-5", 1);
        sum("length-minute", 1);
        sum("0007", 7);
        sum("100000*10000/100000/100", 100);
        sum("100000*10000/100000*0+7", 7);
    }

    private static void holds(String test, boolean want) {
        C.due("grow 7 if " + test, Tapes.grewBy(asked(), 0, "7 if " + test), want ? 7 : 100);
    }

    private static void tests() {
        holds("1<2", true);
        holds("2<2", false);
        holds("2>1", true);
        holds("2>2", false);
        holds("2=2", true);
        holds("2=3", false);
        holds("not 1=2", true);
        holds("not not 1=2", false);
        holds("not not not 1=2", true);
        holds("1=1 and 1=2", false);
        holds("1=1 or 1=2", true);
        holds("1=1 or 1=1 and 1=2", true);
        holds("(1=1 or 1=1) and 1=2", false);
        holds("1=2 and 1=2 or 1=1", true);
        holds("1=2 and (1=2 or 1=1)", false);
        holds("not 1=2 and 1=2", false);
        holds("not (1=2 and 1=2)", true);
        holds("not 1=1 or 1=1", true);
        holds("1=2 or 1=2 or 1=1", true);
        holds("1=1 and 1=1 and 1=2", false);
        holds("humps=2 and late=5 and gone=12", true);
        holds("0-1<0", true);
    }

    private static void broken() {
        sum("1/0", 100);
        sum("1/bend", 100);
        sum("7+0/0*0", 100);
        sum("100000*10000", 1000);
        sum("100000*10000+1", 100);
        sum("100000*10000+1-1", 100);
        sum("0-100000*10000", 1);
        sum("0-100000*10000-1", 100);
        sum("0-100000*10000-1+2", 100);
        sum("100000*100000", 100);
        sum("[0-100000]*100000+5", 100);
        sum("100000*100000/100000", 100);
        holds("1/0=1", false);
        holds("not 1/0=1", false);
        holds("1=1/0", false);
        holds("1=1 or 1/0=1", true);
        holds("1=2 or 1/0=1", false);
        holds("1/0=1 or 1=1", false);
        holds("1=2 and 1/0=1", false);
        holds("not (1=2 and 1/0=1)", true);
        holds("1=2 and 1/0=1 or 1=1", true);
        holds("1=1 and 1/0=1 or 1=1", false);
        holds("1=1 or 1/0=1 and 1/0=1", true);
        holds("not (1=1 and 1/0=1) or 1=1", false);
        holds("(1=1 or 1/0=1) and 1=1", true);
        holds("1=1 or 1=2 or 1/0=1", true);
        holds("1=2 and 1=1 and 1/0=1 or 2=2", true);
        C.due("the one before holds", Tapes.grewBy(asked(), 0, "5; grow 1/0; grow 8 if 1/0=1"), 5);
        C.due("the last that holds", Tapes.grewBy(asked(), 0, "5; grow 6; grow 8 if 1=2"), 6);
    }

    private static void weights() {
        LakeWatch x = asked();
        C.due("odds of an unknown", x.odds(0, 4, 0), -1);
        Tapes.law(x, "wake 30; beast 500; made 10; made 20 if humps>1; wake 90 if gone>12");
        C.due("wake, upper", x.odds(0, 0, 0), 3);
        C.due("wake, lower", x.odds(0, 0, 1), 5);
        C.due("made, upper", x.odds(0, 4, 0), 2);
        C.due("made, lower", x.odds(0, 4, 1), 5);
        C.due("a beast that is not there, upper", x.odds(0, 1, 0), 0);
        C.due("a beast that is not there, lower", x.odds(0, 1, 1), 1);
        C.due("without a clause, upper", x.odds(0, 3, 0), 0);
        x.day(20, 1, 1);
        C.due("there without a clause, lower", x.odds(0, 3, 1), 1);
        x.beast(20, 5, 604, 604);
        C.due("a beast that is there, upper", x.odds(0, 1, 0), 10);
        C.due("a beast that is there, lower", x.odds(0, 1, 1), 11);
        Tapes.law(x, "wake 5000; beast 0-1; made 1000");
        C.due("1000 at most", x.odds(0, 0, 1), 2);
        C.due("0 at least", x.odds(0, 1, 0), 0);
        Tapes.law(x, "wake 999;made 1");
        C.due("odds(0, 0, 0)", x.odds(0, 0, 0), 999);
        C.due("odds(0, 0, 1)", x.odds(0, 0, 1), 1000);
        Tapes.law(x, "wake 7");
        C.due("one alone, upper", x.odds(0, 0, 0), 1);
        C.due("one alone, lower", x.odds(0, 0, 1), 1);
        C.due("odds(1, 0, 0)", x.odds(1, 0, 0), -1);
        C.due("odds(-1, 0, 0)", x.odds(-1, 0, 0), -1);
        C.due("odds(0, -1, 0)", x.odds(0, -1, 0), -1);
        C.due("odds(0, 5, 0)", x.odds(0, 5, 0), -1);
        C.due("odds(0, 0, -1)", x.odds(0, 0, -1), -1);
        C.due("odds(0, 0, 2)", x.odds(0, 0, 2), -1);
        Tapes.law(x, "wake 7; wake 0");
        C.due("weights 0", x.odds(0, 0, 0), -1);
        Tapes.law(x, "wake 7; wake 1/0");
        C.due("a broken one does not hold", x.odds(0, 0, 0), 1);
        Tapes.law(x, "log 9; grow 3");
        C.due("one that is not there alone", x.odds(0, 2, 1), -1);
    }

    private static void unknownAndMost() {
        LakeWatch x = new LakeWatch();
        x.watcher(1);
        x.log(1, 0);
        x.day(1, 1, 1);
        x.day(2, 1, 1);
        x.sight(0, 0, 0, 0, 0, 1, 0);
        x.sight(1, 0, 0, 0, 0, 2, 1);
        x.sight(2, 0, 0, 0, 0, 3, 2);
        x.sight(0, 0, 0, 0, 0, 4, 2);
        x.sight(0, 0, 0, 0, 0, 5, 2);
        C.due("all unknown", x.unknown(0, 77), 5);
        C.due("the last unknown", x.unknown(1, 4), 4);
        C.due("most of unknowns", x.most(0), 0);
        Tapes.law(x, "log 5; bent 5; made 1 if length>4");
        C.due("unknown now", x.unknown(0, 0), 2);
        C.due("the first unknown", x.unknown(1, 0), 0);
        C.due("the second unknown", x.unknown(1, 1), 3);
        C.due("a third unknown", x.unknown(1, 2), -1);
        C.due("unknown(1, -1)", x.unknown(1, -1), -1);
        C.due("unknown(2, 0)", x.unknown(2, 0), -1);
        C.due("unknown(-1, 0)", x.unknown(-1, 0), -1);
        int[] mosts = {0, 0, 1, 1, 1};
        for (int cause = 0; cause < 5; cause++) {
            C.due("most(" + cause + ")", x.most(cause), mosts[cause]);
        }
        C.due("most(-1)", x.most(-1), -1);
        C.due("most(5)", x.most(5), -1);
        Tapes.law(x, "log 5; bent 6; made 6");
        C.due("most(3), the lowest of alike ones", x.most(3), 2);
        C.due("most(4) without a rival", x.most(4), 3);
        x.boat(2, 0, 0, 1);
        x.sight(2, 10, 5, 0, 0, 3, 2);
        Tapes.law(x, "wake 2; made 1; bent 2");
        C.due("most(0)", x.most(0), 1);
        C.due("none is refused", x.count(11), 0);
    }

    /** What an earlier law, or one that was broken when it was asked, leaves behind must not count. */
    private static void manyLaws() {
        LakeWatch x = asked();
        for (int n = 1; n <= 40; n++) {
            C.due("a long law, the " + n + "th", Tapes.law(x, "grow " + n + often("+0", 49)), 1);
            C.due("grew by it", x.of(0, 8), n);
        }
        Tapes.law(x, "made 1+2+[3*[1/0]]");
        for (int n = 0; n < 80; n++) {
            C.due("a broken one", x.unknown(0, 0), 1);
        }
        Tapes.law(x, "made 1+2+3");
        C.due("a sound one", x.odds(0, 4, 0), 1);
    }

    private static void theOneBeforeStays() {
        LakeWatch x = asked();
        Tapes.law(x, "wake 1; grow 50");
        C.due("a fault", Tapes.law(x, "grow 60; made"), -6);
        C.due("its place", x.fault(), 13);
        C.due("clauses of the one before", x.count(6), 2);
        C.due("grew by the one before", x.of(0, 8), 50);
        C.due("nothing", x.law(), -6);
        C.due("its place", x.fault(), 0);
        C.due("grew by the one before still", x.of(0, 8), 50);
        C.due("another", Tapes.law(x, "grow 70"), 1);
        C.due("fault() then", x.fault(), -1);
        C.due("grew by the other", x.of(0, 8), 70);
        C.due("wake by the other", x.odds(0, 0, 0), -1);
    }
}
