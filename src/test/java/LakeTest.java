/** Promises 1 to 12, 15, 16 and 19: what is on the lake, the tape, rows of sights, causes, poles. */
public final class LakeTest {
    private static final Check C = new Check("LakeTest");

    public static void main(String[] args) {
        aNewObject();
        days();
        boatsBeastsLogs();
        watchersAndPoles();
        sights();
        tape();
        rows();
        gone();
        causes();
        spans();
        C.done();
    }

    private static void bad(String call, LakeWatch x, int[] before, int got) {
        C.refused(call, x, before, got, -1);
    }

    private static int[] now(LakeWatch x) {
        return Check.refusals(x);
    }

    private static void aNewObject() {
        LakeWatch x = new LakeWatch();
        for (int what = 0; what <= 14; what++) {
            C.due("new count(" + what + ")", x.count(what), 0);
        }
        C.due("new status()", x.status(), 0);
        C.due("new fault()", x.fault(), -1);
        C.due("new cousins()", x.cousins(), 0);
        C.due("new of(0, 0)", x.of(0, 0), -1);
        C.due("new there(0)", x.there(0), -1);
        C.due("new unknown(0, 0)", x.unknown(0, 0), 0);
        C.due("new most(4)", x.most(4), 0);
        C.due("new likely(0)", x.likely(0), -1);
        C.due("new lot(0)", x.lot(0), 0);
        C.due("new lot(1)", x.lot(1), 100);
        C.due("new says(0)", x.says(0), 0);
        C.due("new plan(1000)", x.plan(1000), 0);
        C.due("new grew(0)", x.grew(0), -1);
        C.due("new picture(0, 5, 0)", x.picture(0, 5, 0), 5);
        C.due("new picture(0, 5, 1)", x.picture(0, 5, 1), 6);
        C.due("new world(0, -1)", x.world(0, -1), -1);
    }

    private static void days() {
        LakeWatch x = new LakeWatch();
        for (int what = 0; what <= 2; what++) {
            C.due("day first", x.day(59, what, 9 - what), 0);
            C.due("day again", x.day(59, what, what), 9 - what);
            C.due("day once more", x.day(59, what, 0), what);
            C.due("another day", x.day(0, what, 1), 0);
        }
        bad("day(-1, 0, 0)", x, now(x), x.day(-1, 0, 0));
        bad("day(60, 0, 0)", x, now(x), x.day(60, 0, 0));
        bad("day(0, -1, 0)", x, now(x), x.day(0, -1, 0));
        bad("day(0, 3, 0)", x, now(x), x.day(0, 3, 0));
        bad("day(0, 0, -1)", x, now(x), x.day(0, 0, -1));
        bad("day(0, 0, 10)", x, now(x), x.day(0, 0, 10));
        C.due("day after refusals", x.day(0, 0, 0), 1);
        C.due("status after day", x.status(), 0);
    }

    private static void boatsBeastsLogs() {
        LakeWatch x = new LakeWatch();
        bad("boat(-1, 0, 0, 1)", x, now(x), x.boat(-1, 0, 0, 1));
        bad("boat(60, 0, 0, 1)", x, now(x), x.boat(60, 0, 0, 1));
        bad("boat(0, -1, 0, 1)", x, now(x), x.boat(0, -1, 0, 1));
        bad("boat(0, 2, 0, 1)", x, now(x), x.boat(0, 2, 0, 1));
        bad("boat(0, 0, -1, 1)", x, now(x), x.boat(0, 0, -1, 1));
        bad("boat(0, 0, 1440, 1)", x, now(x), x.boat(0, 0, 1440, 1));
        bad("boat(0, 0, 0, 0)", x, now(x), x.boat(0, 0, 0, 0));
        bad("boat(0, 0, 0, 25)", x, now(x), x.boat(0, 0, 0, 25));
        for (int n = 0; n < 12; n++) {
            C.due("boat", x.boat(59, n % 2, 1439, 24), n);
        }
        C.refused("a 13th boat", x, now(x), x.boat(0, 0, 0, 1), -5);
        bad("a 13th boat that can't be", x, now(x), x.boat(0, 0, 0, 0));
        C.due("count(0)", x.count(0), 12);

        bad("beast(-1, 0, 0, 0)", x, now(x), x.beast(-1, 0, 0, 0));
        bad("beast(60, 0, 0, 0)", x, now(x), x.beast(60, 0, 0, 0));
        bad("beast(0, -1, 0, 0)", x, now(x), x.beast(0, -1, 0, 0));
        bad("beast(0, 24, 0, 0)", x, now(x), x.beast(0, 24, 0, 0));
        bad("beast(0, 0, -1, 0)", x, now(x), x.beast(0, 0, -1, 0));
        bad("beast(0, 0, 0, 1440)", x, now(x), x.beast(0, 0, 0, 1440));
        bad("beast(0, 0, 1440, 1440)", x, now(x), x.beast(0, 0, 1440, 1440));
        bad("beast(0, 0, 5, 4)", x, now(x), x.beast(0, 0, 5, 4));
        C.due("a beast of one minute", x.beast(0, 0, 5, 5), 0);
        for (int n = 1; n < 12; n++) {
            C.due("beast", x.beast(59, 23, 0, 1439), n);
        }
        C.refused("a 13th beast", x, now(x), x.beast(0, 0, 0, 1), -5);
        C.due("count(1)", x.count(1), 12);

        bad("log(-1, 0)", x, now(x), x.log(-1, 0));
        bad("log(60, 0)", x, now(x), x.log(60, 0));
        bad("log(0, -1)", x, now(x), x.log(0, -1));
        bad("log(0, 24)", x, now(x), x.log(0, 24));
        for (int n = 0; n < 12; n++) {
            C.due("log", x.log(59, 23), n);
        }
        C.refused("a 13th log", x, now(x), x.log(0, 0), -5);
        C.due("count(2)", x.count(2), 12);
    }

    private static void watchersAndPoles() {
        LakeWatch x = new LakeWatch();
        bad("watcher(-1)", x, now(x), x.watcher(-1));
        bad("watcher(101)", x, now(x), x.watcher(101));
        C.refused("a pole of none", x, now(x), x.pole(0, 1, 1), -2);
        for (int n = 0; n < 12; n++) {
            C.due("watcher", x.watcher(n == 0 ? 0 : 100), n);
        }
        C.refused("a 13th watcher", x, now(x), x.watcher(1), -5);
        C.due("count(3)", x.count(3), 12);
        bad("pole(0, 0, 1)", x, now(x), x.pole(0, 0, 1));
        bad("pole(0, 100, 1)", x, now(x), x.pole(0, 100, 1));
        bad("pole(0, 1, 0)", x, now(x), x.pole(0, 1, 0));
        bad("pole(0, 1, 201)", x, now(x), x.pole(0, 1, 201));
        bad("pole(12, 0, 1): the number first", x, now(x), x.pole(12, 0, 1));
        C.refused("pole(12, 1, 1)", x, now(x), x.pole(12, 1, 1), -2);
        C.refused("pole(-1, 1, 1)", x, now(x), x.pole(-1, 1, 1), -2);
        for (int n = 0; n < 20; n++) {
            C.due("pole", x.pole(11, 99, 200), n);
        }
        C.refused("a 21st pole", x, now(x), x.pole(0, 1, 1), -5);
        C.refused("a 21st pole of none", x, now(x), x.pole(12, 1, 1), -2);
        C.due("count(4)", x.count(4), 20);
    }

    private static void sights() {
        LakeWatch x = new LakeWatch();
        x.watcher(5);
        bad("day -1", x, now(x), x.sight(-1, 0, 0, 0, 0, 1, 0));
        bad("day 60", x, now(x), x.sight(60, 0, 0, 0, 0, 1, 60));
        bad("minute -1", x, now(x), x.sight(0, -1, 0, 0, 0, 1, 0));
        bad("minute 1440", x, now(x), x.sight(0, 1440, 0, 0, 0, 1, 0));
        bad("place -1", x, now(x), x.sight(0, 0, -1, 0, 0, 1, 0));
        bad("place 24", x, now(x), x.sight(0, 0, 24, 0, 0, 1, 0));
        bad("humps -1", x, now(x), x.sight(0, 0, 0, 0, -1, 1, 0));
        bad("humps 10", x, now(x), x.sight(0, 0, 0, 0, 10, 1, 0));
        bad("length 0", x, now(x), x.sight(0, 0, 0, 0, 0, 0, 0));
        bad("length 201", x, now(x), x.sight(0, 0, 0, 0, 0, 201, 0));
        bad("told 60", x, now(x), x.sight(0, 0, 0, 0, 0, 1, 60));
        bad("told ahead", x, now(x), x.sight(5, 0, 0, 0, 0, 1, 4));
        bad("told ahead of none", x, now(x), x.sight(5, 0, 0, 9, 0, 1, 4));
        C.refused("of no watcher", x, now(x), x.sight(5, 0, 0, 1, 0, 1, 5), -2);
        C.refused("of watcher -1", x, now(x), x.sight(5, 0, 0, -1, 0, 1, 5), -2);
        C.due("sight", x.sight(58, 1439, 23, 0, 9, 200, 59), 0);
        int[] has = {58, 1439, 23, 0, 9, 200, 59, 0, 100};
        for (int what = 0; what < has.length; what++) {
            C.due("of(0, " + what + ")", x.of(0, what), has[what]);
        }
        C.due("of(0, -1)", x.of(0, -1), -1);
        C.due("of(0, 9)", x.of(0, 9), -1);
        C.due("of(1, 0)", x.of(1, 0), -1);
        C.due("of(-1, 0)", x.of(-1, 0), -1);
        C.due("the last day", x.sight(59, 0, 0, 0, 0, 1, 59), 1);
        for (int n = 2; n < 40; n++) {
            C.due("sight", x.sight(0, n, 0, 0, 0, 1, 0), n);
        }
        C.refused("a 41st sight", x, now(x), x.sight(0, 0, 0, 0, 0, 1, 0), -5);
        C.refused("a 41st sight of none", x, now(x), x.sight(0, 0, 0, 7, 0, 1, 0), -2);
        C.due("count(5)", x.count(5), 40);
        C.due("of(39, 1)", x.of(39, 1), 39);
        C.due("count(11)", x.count(11), 13);
    }

    private static void tape() {
        LakeWatch x = new LakeWatch();
        C.due("end(1) of none", x.end(1), -1);
        C.due("end(0) of none", x.end(0), 0);
        for (int n = 1; n <= 20; n++) {
            C.due("feed", x.feed(n, -1, 0, 0, 0), 20 * n);
        }
        C.due("feed above 400", x.feed(0, 0, 0, 0, 0), -1);
        C.due("count(10)", x.count(10), 400);
        C.due("end(401)", x.end(401), -1);
        C.due("end(-1)", x.end(-1), -1);
        C.due("end(400)", x.end(400), 400);
        C.due("end(381)", x.end(381), 381);
        C.due("feed above 400 by one", x.feed(0, 0, 0, 0, 0), -1);
        C.due("end(382)", x.end(382), -1);
        C.due("end(380)", x.end(380), 380);
        C.due("feed to 400", x.feed(0, 0, 0, 0, 0), 400);
        C.due("end(0)", x.end(0), 0);
        C.due("count(10) of none", x.count(10), 0);
        C.due("nothing was refused", x.count(11) + x.count(12) + x.count(13) + x.count(14), 0);
        x.watcher(101);
        x.feed(1, 2, 3, 4, 5);
        C.due("feed leaves status()", x.status(), -1);
        x.end(500);
        C.due("end leaves status()", x.status(), -1);
    }

    private static void rows() {
        LakeWatch x = new LakeWatch();
        C.refused("row() of nothing", x, now(x), x.row(), -6);
        x.watcher(1);
        x.watcher(1);
        Tapes.put(x, 3, 143, 23, 1, 9, 200, 56, 3, 0, 0, 0, 0, 1, 0);
        C.due("row()", x.row(), 2);
        C.due("status()", x.status(), 0);
        C.due("cousins()", x.cousins(), 0);
        C.due("count(10)", x.count(10), 0);
        int[] has = {3, 1430, 23, 1, 9, 200, 59};
        for (int what = 0; what < has.length; what++) {
            C.due("of(0, " + what + ")", x.of(0, what), has[what]);
        }
        int[][] strangers = {
            {60, 0, 0, 0, 0, 1, 0}, {0, 144, 0, 0, 0, 1, 0}, {0, 0, 24, 0, 0, 1, 0}, {0, 0, 0, 2, 0, 1, 0},
            {0, 0, 0, 0, 10, 1, 0}, {0, 0, 0, 0, 0, 0, 0}, {0, 0, 0, 0, 0, 201, 0}, {3, 0, 0, 0, 0, 1, 57},
            {255, 255, 255, 255, 255, 255, 255}, {0, 0, 0, 0, 0, 1}, {0}
        };
        for (int[] stranger : strangers) {
            Tapes.put(x, stranger);
            C.due("row() of a cousin's", x.row(), 0);
            C.due("status() behind it", x.status(), 0);
            C.due("cousins() of it", x.cousins(), 1);
        }
        C.due("count(5)", x.count(5), 2);
        C.refused("row() of nothing again", x, now(x), x.row(), -6);
        C.due("cousins() stays", x.cousins(), 1);
        Tapes.put(x, 0, 0, 0, 0, 0, 0, 0, 7, 1, 2, 0, 3, 4, 5, 1, 2, 3);
        C.due("row() mixed", x.row(), 1);
        C.due("cousins() mixed", x.cousins(), 2);
        C.due("of(2, 6)", x.of(2, 6), 12);
        for (int n = 3; n < 39; n++) {
            x.sight(0, 0, 0, 0, 0, 1, 0);
        }
        Tapes.put(x, 9, 0, 0, 0, 0, 1, 0, 8, 0, 0, 0, 0, 1, 0, 7, 0, 0, 0, 0, 1, 0);
        C.due("row() with room for one", x.row(), 1);
        C.due("cousins() without room", x.cousins(), 2);
        C.due("of(39, 0)", x.of(39, 0), 9);
        C.due("count(13)", x.count(13), 0);
    }

    private static void gone() {
        LakeWatch x = new LakeWatch();
        x.watcher(1);
        x.boat(4, 0, 100, 10);
        int at150 = x.sight(4, 150, 5, 0, 0, 1, 4);
        int at151 = x.sight(4, 151, 5, 0, 0, 1, 4);
        int at149 = x.sight(4, 149, 5, 0, 0, 1, 4);
        int otherDay = x.sight(5, 151, 5, 0, 0, 1, 5);
        C.due("gone in that minute", x.of(at150, 7), 0);
        C.due("gone a minute ago", x.of(at151, 7), 1);
        C.due("gone not yet", x.of(at149, 7), 0);
        C.due("gone on another day", x.of(otherDay, 7), 0);
        x.boat(4, 1, 60, 5);
        C.due("gone by the other one", x.of(at149, 7), 149 - 150 + 1);
        C.due("gone by both in that minute", x.of(at150, 7), 0);
        int early = x.sight(4, 160, 3, 0, 0, 1, 4);
        C.due("gone by the later one", x.of(early, 7), 0);
        int later = x.sight(4, 170, 4, 0, 0, 1, 4);
        C.due("gone by way 1 at 155", x.of(later, 7), 15);
        x.boat(4, 0, 1439, 24);
        int last = x.sight(4, 1439, 0, 0, 0, 1, 4);
        int next = x.sight(5, 23, 1, 0, 0, 1, 5);
        C.due("gone at the last minute", x.of(last, 7), 0);
        C.due("gone behind the last minute", x.of(next, 7), 0);
    }

    private static void causes() {
        LakeWatch x = new LakeWatch();
        x.watcher(1);
        C.due("there(0) of none", x.there(0), -1);
        x.boat(1, 0, 100, 1);
        int[] minutes = {109, 110, 111, 170, 171};
        int[] wakes = {16, 16, 17, 17, 16};
        for (int i = 0; i < minutes.length; i++) {
            C.due("there by a wake at " + minutes[i], x.there(x.sight(1, minutes[i], 10, 0, 0, 1, 1)), wakes[i]);
        }
        x.beast(2, 10, 50, 60);
        int[][] spots = {{2, 50, 10, 18}, {2, 60, 9, 18}, {2, 55, 11, 18}, {2, 55, 12, 16}, {2, 55, 8, 16},
            {2, 49, 10, 16}, {2, 61, 10, 16}, {3, 55, 10, 16}};
        for (int[] spot : spots) {
            int sight = x.sight(spot[0], spot[1], spot[2], 0, 0, 1, 9);
            C.due("there by a beast at " + spot[1] + ", " + spot[2], x.there(sight), spot[3]);
        }
        x.log(4, 10);
        C.due("there by a log", x.there(x.sight(4, 0, 10, 0, 0, 1, 4)), 20);
        C.due("there beside a log", x.there(x.sight(4, 0, 11, 0, 0, 1, 4)), 16);
        C.due("there a day off a log", x.there(x.sight(5, 0, 10, 0, 0, 1, 5)), 16);
        x.day(6, 1, 1);
        x.day(7, 0, 9);
        x.day(7, 2, 9);
        C.due("there by bent air", x.there(x.sight(6, 0, 0, 0, 0, 1, 6)), 24);
        C.due("there by wind and news", x.there(x.sight(7, 0, 0, 0, 0, 1, 7)), 16);
        C.due("there(-1)", x.there(-1), -1);
        C.due("there(count)", x.there(x.count(5)), -1);
    }

    private static void spans() {
        LakeWatch x = new LakeWatch();
        x.watcher(1);
        x.watcher(1);
        x.sight(0, 0, 0, 0, 0, 33, 0);
        x.sight(0, 0, 0, 1, 0, 200, 0);
        C.due("span without poles", x.span(0, 0), 33);
        C.due("span without poles, greatest", x.span(0, 1), 33);
        x.pole(0, 2, 3);
        C.due("span by one", x.span(0, 0), 22);
        C.due("span by another's only", x.span(1, 0), 133);
        C.due("span by another's only, greatest", x.span(1, 1), 133);
        x.pole(0, 7, 4);
        C.due("span, least", x.span(0, 0), 22);
        C.due("span, greatest, cut", x.span(0, 1), 57);
        C.due("span by all, greatest", x.span(1, 1), 350);
        x.pole(1, 1, 200);
        C.due("span by one's own", x.span(1, 0), 1);
        C.due("span by one's own, greatest", x.span(1, 1), 1);
        C.due("span of the other stays", x.span(0, 1), 57);
        C.due("span of the other stays, least", x.span(0, 0), 22);
        Tapes.law(x, "grow 1");
        C.due("span when it grew least", x.span(0, 1), 5775);
        Tapes.law(x, "grow 300");
        C.due("span when it grew, cut once", x.span(0, 1), 19);
        C.due("span(2, 0)", x.span(2, 0), -1);
        C.due("span(-1, 0)", x.span(-1, 0), -1);
        C.due("span(0, 2)", x.span(0, 2), -1);
        C.due("span(0, -1)", x.span(0, -1), -1);
        LakeWatch z = new LakeWatch();
        z.watcher(0);
        z.sight(0, 0, 0, 0, 0, 100, 0);
        z.watcher(0);
        z.pole(0, 1, 2);
        z.pole(1, 1, 4);
        C.due("span by one's only pole", z.span(0, 0), 50);
        LakeWatch y = new LakeWatch();
        y.watcher(0);
        y.sight(0, 0, 0, 0, 0, 200, 0);
        y.pole(0, 99, 1);
        Tapes.law(y, "grow 1");
        C.due("the greatest span of all", y.span(0, 0), 1980000);
    }
}
