/** Promises 37 to 40: images, counts and status. */
public final class KeepTest {
    private static final Check C = new Check("KeepTest");

    public static void main(String[] args) {
        refusedImages();
        allIsKept();
        whatIsNotKept();
        imagesStay();
        counts();
        status();
        C.done();
    }

    private static void refusedImages() {
        LakeWatch x = new LakeWatch();
        C.refused("image(-1)", x, Check.refusals(x), x.image(-1), -1);
        C.refused("image(2)", x, Check.refusals(x), x.image(2), -1);
        C.refused("back(-1)", x, Check.refusals(x), x.back(-1), -1);
        C.refused("back(2)", x, Check.refusals(x), x.back(2), -1);
        C.refused("back(0)", x, Check.refusals(x), x.back(0), -2);
        C.due("image(0)", x.image(0), 0);
        C.refused("back(1)", x, Check.refusals(x), x.back(1), -2);
        C.due("back(0)", x.back(0), 0);
        C.due("status()", x.status(), 0);
    }

    /** One of everything: n tells which lake it is. */
    private static void furnish(LakeWatch x, int n) {
        for (int what = 0; what < 3; what++) {
            x.day(0, what, n);
            x.kin(what, n + 5);
        }
        x.boat(0, 0, 10 * n, 1);
        x.beast(0, 9, 0, 100 * n);
        x.log(0, 3 * n);
        x.watcher(100);
        x.pole(0, n, 10);
        x.sight(0, 50, 3, 0, n, 100, n);
        x.story(n, n, 10 * n);
        x.sweep(10 * n, 1, n, 0);
        x.offer(20 * n, 1, n, n);
        x.year(0, 10, n);
        x.year(1, 100 * n, 3);
        x.ripple(1, n, 3 + n);
        x.ripple(2, n, 4 + n);
        Tapes.law(x, n == 1 ? "wake 5;made 7;grow 200" : "made 3 if humps = 2;log 9");
    }

    /** Answers that tell of all that is kept. */
    private static int[] look(LakeWatch x) {
        int[] seen = new int[60];
        int at = 0;
        for (int what = 0; what <= 9; what++) {
            seen[at++] = x.count(what);
        }
        for (int what = 0; what <= 8; what++) {
            seen[at++] = x.of(0, what);
        }
        for (int sight = 0; sight < 2; sight++) {
            seen[at++] = x.there(sight);
            seen[at++] = x.span(sight, 0);
            seen[at++] = x.span(sight, 1);
            seen[at++] = x.odds(sight, 0, 0);
            seen[at++] = x.odds(sight, 4, 1);
            seen[at++] = x.likely(sight);
            seen[at++] = x.moved(sight, sight);
        }
        seen[at++] = x.unknown(0, 0);
        seen[at++] = x.most(2);
        seen[at++] = x.lot(0);
        seen[at++] = x.lot(3);
        seen[at++] = x.says(1);
        seen[at++] = x.plan(2);
        seen[at++] = x.more(0, 1, 1);
        seen[at++] = x.grew(0);
        seen[at++] = x.picture(0, 3, 0);
        seen[at++] = x.picture(0, 3, 1);
        return seen;
    }

    private static void same(String when, int[] got, int[] want) {
        for (int i = 0; i < got.length; i++) {
            C.due(when + ", answer " + i, got[i], want[i]);
        }
    }

    private static void allIsKept() {
        LakeWatch x = new LakeWatch();
        int[] empty = look(x);
        x.image(1);
        furnish(x, 1);
        int[] first = look(x);
        x.image(0);
        furnish(x, 2);
        int[] second = look(x);
        x.back(0);
        same("back(0)", look(x), first);
        x.back(1);
        same("back(1)", look(x), empty);
        x.back(0);
        furnish(x, 2);
        same("the same again", look(x), second);
    }

    private static void whatIsNotKept() {
        LakeWatch x = new LakeWatch();
        x.image(0);
        x.watcher(100);
        x.story(1, 0, 1);
        x.run(0, 5, 0);
        Tapes.law(x, "wake");
        Tapes.put(x, 1, 2, 3);
        x.row();
        x.feed(1, 2, 3, 4, 5);
        x.watcher(-1);
        x.back(0);
        C.due("the tape", x.count(10), 20);
        C.due("the fault", x.fault(), 4);
        C.due("the cousins", x.cousins(), 1);
        C.due("the world", x.world(2, 0), 5);
        C.due("refused by -1", x.count(11), 1);
        C.due("refused by -6", x.count(14), 1);
        C.due("the watchers are gone", x.count(3), 0);
        C.due("the status is back's", x.status(), 0);
    }

    private static void imagesStay() {
        LakeWatch x = new LakeWatch();
        x.image(0);
        x.watcher(1);
        x.image(1);
        x.back(0);
        C.due("back(1) from an older one", x.back(1), 0);
        C.due("one watcher", x.count(3), 1);
        x.watcher(1);
        x.back(1);
        C.due("an image is not written on", x.count(3), 1);
        x.watcher(1);
        x.image(1);
        x.back(0);
        x.back(1);
        C.due("an image kept anew", x.count(3), 2);
    }

    private static void counts() {
        LakeWatch x = new LakeWatch();
        C.due("count(-1)", x.count(-1), -1);
        C.due("count(15)", x.count(15), -1);
        furnish(x, 1);
        int[] want = {1, 1, 1, 1, 1, 1, 3, 1, 1, 1, 0, 0, 0, 0, 0};
        for (int what = 0; what < want.length; what++) {
            C.due("count(" + what + ")", x.count(what), want[what]);
        }
        x.feed(0, 0, 0, 0, 0);
        C.due("count(10)", x.count(10), 20);
    }

    private static void status() {
        LakeWatch x = new LakeWatch();
        x.watcher(-1);
        int[] unasked = {x.feed(0, 0, 0, 0, 0), x.end(0), x.cousins(), x.fault(), x.of(0, 0), x.there(0), x.odds(0, 0, 0),
            x.unknown(0, 0), x.span(0, 0), x.most(0), x.likely(0), x.moved(0, 0), x.lot(0), x.says(-1), x.plan(-1),
            x.more(0, 0, 0), x.grew(0), x.picture(-1, 0, 0), x.world(0, 0), x.count(-1)};
        C.due("status() is not theirs, all " + unasked.length, x.status(), -1);
        C.due("nor are they counted", x.count(11), 1);
        LakeWatch[] taken = new LakeWatch[18];
        for (int i = 0; i < taken.length; i++) {
            taken[i] = new LakeWatch();
            taken[i].watcher(1);
            taken[i].story(1, 1, 1);
            taken[i].image(0);
            Tapes.put(taken[i], "made 1");
            taken[i].watcher(-1);
        }
        int i = 0;
        taken[i++].day(0, 0, 0);
        taken[i++].boat(0, 0, 0, 1);
        taken[i++].beast(0, 0, 0, 0);
        taken[i++].log(0, 0);
        taken[i++].watcher(0);
        taken[i++].pole(0, 1, 1);
        taken[i++].sight(0, 0, 0, 0, 0, 1, 0);
        taken[i++].row();
        taken[i++].law();
        taken[i++].story(0, 0, 1);
        taken[i++].sweep(0, 1, 0, 0);
        taken[i++].kin(0, 0);
        taken[i++].offer(0, 1, 0, 1);
        taken[i++].year(0, 0, 0);
        taken[i++].ripple(0, 1, 1);
        taken[i++].run(0, 1, 0);
        taken[i++].image(0);
        taken[i++].back(0);
        for (int n = 0; n < taken.length; n++) {
            C.due("status() behind call " + n + " that was taken", taken[n].status(), 0);
        }
    }
}
