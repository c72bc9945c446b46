/** Promises 21 to 29: stories, sweeps, kin, offers and plans. */
public final class StoryTest {
    private static final Check C = new Check("StoryTest");

    public static void main(String[] args) {
        storiesAndSweeps();
        likely();
        exactly();
        moved();
        kin();
        offers();
        says();
        plans();
        C.done();
    }

    private static int[] now(LakeWatch x) {
        return Check.refusals(x);
    }

    private static void bad(String call, LakeWatch x, int[] before, int got) {
        C.refused(call, x, before, got, -1);
    }

    private static void storiesAndSweeps() {
        LakeWatch x = new LakeWatch();
        bad("story(-1, 0, 1)", x, now(x), x.story(-1, 0, 1));
        bad("story(101, 0, 1)", x, now(x), x.story(101, 0, 1));
        bad("story(0, -1, 1)", x, now(x), x.story(0, -1, 1));
        bad("story(0, 21, 1)", x, now(x), x.story(0, 21, 1));
        bad("story(0, 0, 0)", x, now(x), x.story(0, 0, 0));
        bad("story(0, 0, 61)", x, now(x), x.story(0, 0, 61));
        for (int n = 0; n < 6; n++) {
            C.due("story", x.story(100, 20, 60), n);
        }
        C.refused("a 7th story", x, now(x), x.story(0, 0, 1), -5);
        bad("a 7th story that can't be", x, now(x), x.story(0, 0, 0));
        C.due("count(7)", x.count(7), 6);

        bad("sweep(-1, 1, 0, 0)", x, now(x), x.sweep(-1, 1, 0, 0));
        bad("sweep(101, 1, 0, 0)", x, now(x), x.sweep(101, 1, 0, 0));
        bad("sweep(0, 0, 0, 0)", x, now(x), x.sweep(0, 0, 0, 0));
        bad("sweep(0, 61, 0, 0)", x, now(x), x.sweep(0, 61, 0, 0));
        bad("sweep(0, 1, -1, 0)", x, now(x), x.sweep(0, 1, -1, 0));
        bad("sweep(0, 1, 100, 0)", x, now(x), x.sweep(0, 1, 100, 0));
        bad("sweep(0, 1, 0, -1)", x, now(x), x.sweep(0, 1, 0, -1));
        bad("sweep(0, 1, 0, 2)", x, now(x), x.sweep(0, 1, 0, 2));
        for (int n = 0; n < 12; n++) {
            C.due("sweep", x.sweep(n * 100 / 11, 60, 99, n % 2), n);
        }
        C.refused("a 13th sweep", x, now(x), x.sweep(0, 1, 0, 0), -5);
        C.due("count(8)", x.count(8), 12);
    }

    private static void likely() {
        LakeWatch x = new LakeWatch();
        x.story(1, 0, 1);
        C.due("one story", x.likely(0), 1000000);
        x.story(2, 1, 30);
        C.due("a third, cut", x.likely(0), 333333);
        C.due("two thirds, cut", x.likely(1), 666666);
        C.due("likely(2)", x.likely(2), -1);
        C.due("likely(-1)", x.likely(-1), -1);
        x.sweep(50, 30, 0, 0);
        C.due("SIZE is LEAST", x.likely(0), 500000);
        x.sweep(50, 31, 0, 0);
        C.due("SIZE is below LEAST", x.likely(0), 500000);
        x.sweep(0, 1, 50, 1);
        C.due("heard falsely by all alike", x.likely(0), 500000);
        x.sweep(100, 1, 0, 1);
        C.due("heard by what can't be heard", x.likely(0), 0);
        C.due("heard by what must be heard", x.likely(1), 1000000);
        x.sweep(100, 1, 0, 0);
        C.due("all COUNT 0", x.likely(0), 0);
        C.due("all COUNT 0, the other", x.likely(1), 0);
        LakeWatch y = new LakeWatch();
        y.story(0, 0, 1);
        C.due("WEIGHT 0 alone", y.likely(0), 0);
        y.story(5, 0, 1);
        C.due("WEIGHT 0 beside another", y.likely(0), 0);
        C.due("the other", y.likely(1), 1000000);
    }

    /** Twelve sweeps of stories of twenty: chances of five hundred digits; the sums were made apart. */
    private static void exactly() {
        LakeWatch x = new LakeWatch();
        java.math.BigInteger[] counts = new java.math.BigInteger[6];
        int[][] sweeps = new int[12][];
        for (int n = 0; n < 12; n++) {
            sweeps[n] = new int[] {n * 9 % 50 + 1, 1 + n * 5, n * 8 % 99, n % 3 == 0 ? 1 : 0};
            x.sweep(sweeps[n][0], sweeps[n][1], sweeps[n][2], sweeps[n][3]);
        }
        java.math.BigInteger all = java.math.BigInteger.ZERO;
        for (int n = 0; n < 6; n++) {
            x.story(100 - n, 20 - n, 60 - n * 9);
            counts[n] = Model.countOf(100 - n, 20 - n, 60 - n * 9, java.util.Arrays.asList(sweeps));
            all = all.add(counts[n]);
        }
        for (int n = 0; n < 6; n++) {
            C.due("exact likely(" + n + ")", x.likely(n), Model.millionths(counts[n], all));
        }
        LakeWatch y = new LakeWatch();
        for (int n = 0; n < 12; n++) {
            y.sweep(0, 1, 0, 0);
        }
        for (int n = 0; n < 6; n++) {
            y.story(100, 20, 60);
        }
        C.due("the greatest counts", y.likely(5), 166666);
        LakeWatch z = new LakeWatch();
        z.story(1, 19, 60);
        z.story(1, 20, 60);
        z.sweep(99, 1, 0, 1);
        C.due("less than the half by a millionth of a millionth of a ..", z.likely(0), 499999);
        C.due("and more than the half", z.likely(1), 500000);
        LakeWatch w = new LakeWatch();
        w.story(50, 8, 10);
        w.story(50, 8, 10);
        w.sweep(90, 1, 0, 0);
        C.due("halves of a whole that has a digit more", w.likely(0), 500000);
    }

    private static void moved() {
        LakeWatch x = new LakeWatch();
        x.story(50, 0, 1);
        x.story(50, 1, 10);
        C.due("moved without a sweep", x.moved(0, 0), -10000000);
        x.sweep(75, 5, 0, 0);
        C.due("moved up", x.moved(0, 0), 300000);
        C.due("moved down", x.moved(1, 0), -300000);
        x.sweep(100, 5, 0, 1);
        C.due("moved to 0", x.moved(0, 1), -800000);
        C.due("moved nothing any more", x.moved(0, 0), 0);
        x.sweep(100, 1, 0, 0);
        C.due("all COUNT 0 with it", x.moved(1, 2), -1000000);
        C.due("all COUNT 0 but without the other", x.moved(0, 1), 1000000 * 0 - 1000000);
        C.due("moved(-1, 0)", x.moved(-1, 0), -10000000);
        C.due("moved(2, 0)", x.moved(2, 0), -10000000);
        C.due("moved(0, -1)", x.moved(0, -1), -10000000);
        C.due("moved(0, 3)", x.moved(0, 3), -10000000);
    }

    private static void kin() {
        LakeWatch x = new LakeWatch();
        C.due("BREED at first", x.kin(0, 50), 2);
        C.due("BREED then", x.kin(0, 2), 50);
        C.due("FOOD at first", x.kin(1, 10000), 100);
        C.due("FOOD then", x.kin(1, 100), 10000);
        C.due("EAT at first", x.kin(2, 100), 1);
        C.due("EAT then", x.kin(2, 1), 100);
        int[][] wrong = {{-1, 1}, {3, 1}, {0, -1}, {0, 51}, {1, -1}, {1, 10001}, {2, 0}, {2, 101}};
        for (int[] pair : wrong) {
            bad("kin(" + pair[0] + ", " + pair[1] + ")", x, now(x), x.kin(pair[0], pair[1]));
        }
        x.story(1, 0, 60);
        x.story(1, 1, 1);
        x.story(1, 2, 50);
        x.story(1, 2, 51);
        x.story(1, 20, 5);
        C.due("lot(0)", x.lot(0), 1 + 4 + 16);
        x.kin(2, 2);
        C.due("lot(0) when they eat more", x.lot(0), 1);
        x.kin(1, 204);
        C.due("lot(0) with food for 102", x.lot(0), 1 + 4 + 8 + 16);
        x.kin(0, 0);
        C.due("lot(0) when one can breed", x.lot(0), 31);
        x.kin(1, 0);
        C.due("lot(0) without food", x.lot(0), 1);
        x.kin(1, 10000);
        x.kin(2, 1);
        C.due("lot(1) above 20", x.lot(1), 10000);
        C.due("lot(60)", x.lot(60), 166);
        x.kin(2, 7);
        C.due("lot(60) of 420 each", x.lot(60), 23);
        C.due("lot(61)", x.lot(61), -1);
        C.due("lot(-1)", x.lot(-1), -1);
    }

    private static void offers() {
        LakeWatch x = new LakeWatch();
        bad("offer(-1, 1, 0, 1)", x, now(x), x.offer(-1, 1, 0, 1));
        bad("offer(101, 1, 0, 1)", x, now(x), x.offer(101, 1, 0, 1));
        bad("offer(0, 0, 0, 1)", x, now(x), x.offer(0, 0, 0, 1));
        bad("offer(0, 61, 0, 1)", x, now(x), x.offer(0, 61, 0, 1));
        bad("offer(0, 1, -1, 1)", x, now(x), x.offer(0, 1, -1, 1));
        bad("offer(0, 1, 100, 1)", x, now(x), x.offer(0, 1, 100, 1));
        bad("offer(0, 1, 0, 0)", x, now(x), x.offer(0, 1, 0, 0));
        bad("offer(0, 1, 0, 101)", x, now(x), x.offer(0, 1, 0, 101));
        for (int n = 0; n < 10; n++) {
            C.due("offer", x.offer(100, 60, 99, 100), n);
        }
        C.refused("an 11th offer", x, now(x), x.offer(0, 1, 0, 1), -5);
        C.due("count(9)", x.count(9), 10);
        C.due("says(1023) without stories", x.says(1023), 0);
        C.due("says(1024)", x.says(1024), -1);
        C.due("plan(1000) of alike ones", x.plan(1000), 0);
    }

    private static void says() {
        LakeWatch x = new LakeWatch();
        x.story(1, 3, 20);
        x.offer(33, 20, 0, 1);
        x.offer(0, 1, 10, 1);
        x.offer(50, 21, 0, 1);
        C.due("67 hundredths thrice, cut each time", x.says(1), 1000000 - 300763);
        C.due("falsely alone", x.says(2), 100000);
        C.due("too small to hear", x.says(4), 0);
        C.due("both", x.says(3), 1000000 - 270686);
        C.due("all", x.says(7), 1000000 - 270686);
        x.story(2, 0, 20);
        C.due("a third and two thirds of them", x.says(1), 699237L * 333333 / 1000000);
        C.due("each cut", x.says(2), 33333 + 66666);
        C.due("says(-1)", x.says(-1), -1);
        C.due("says(8)", x.says(8), -1);
        C.due("says(0)", x.says(0), 0);
        LakeWatch y = new LakeWatch();
        y.story(1, 1, 1);
        y.offer(1, 1, 1, 1);
        y.offer(97, 1, 98, 1);
        C.due("in order: part, false, part, false", y.says(3), 1000000 - 588);
    }

    private static void plans() {
        LakeWatch x = new LakeWatch();
        x.story(1, 1, 10);
        x.offer(50, 1, 0, 10);
        x.offer(50, 1, 0, 10);
        x.offer(75, 1, 0, 20);
        x.offer(75, 1, 0, 19);
        C.due("plan(0)", x.plan(0), 0);
        C.due("plan(9)", x.plan(9), 0);
        C.due("plan(10), the lowest bits", x.plan(10), 1);
        C.due("plan(18)", x.plan(18), 1);
        C.due("plan(19)", x.plan(19), 8);
        C.due("plan(20), the cheapest", x.plan(20), 8);
        C.due("plan(29)", x.plan(29), 9);
        C.due("plan(39)", x.plan(39), 11);
        C.due("plan(59)", x.plan(59), 15);
        C.due("plan(1000)", x.plan(1000), 15);
        C.due("plan(1001)", x.plan(1001), -1);
        C.due("plan(-1)", x.plan(-1), -1);
        x.sweep(100, 1, 0, 0);
        C.due("plan when all COUNT 0", x.plan(1000), 0);
        C.due("none is refused", x.count(11), 0);
        LakeWatch y = new LakeWatch();
        for (int n = 0; n < 6; n++) {
            y.story(1, 1, 60);
        }
        for (int n = 0; n < 10; n++) {
            y.offer(1 + n, 60 - n, n, 100);
        }
        C.due("plan with ten offers", y.plan(1000), 1023);
        C.due("plan with two of ten", y.plan(299), 512 + 256);
    }
}
