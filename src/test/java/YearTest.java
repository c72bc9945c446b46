/** Promises 30 to 36: years of lookers, ripples and pictures, worlds. */
public final class YearTest {
    private static final Check C = new Check("YearTest");

    public static void main(String[] args) {
        years();
        pictures();
        refusedWorlds();
        worlds();
        for (int seed = 0; seed < 300; seed++) {
            aWorldByHand(seed * 3331);
        }
        C.done();
    }

    private static int[] now(LakeWatch x) {
        return Check.refusals(x);
    }

    private static void bad(String call, LakeWatch x, int[] before, int got) {
        C.refused(call, x, before, got, -1);
    }

    private static void years() {
        LakeWatch x = new LakeWatch();
        int[][] wrong = {{-1, 0, 0}, {30, 0, 0}, {0, -1, 0}, {0, 1001, 0}, {0, 0, -1}, {0, 0, 1001}};
        for (int[] w : wrong) {
            bad("year(" + w[0] + ", " + w[1] + ", " + w[2] + ")", x, now(x), x.year(w[0], w[1], w[2]));
        }
        C.due("more of a base without lookers", x.more(0, 1, 0), -10000000);
        C.due("grew of a base without lookers", x.grew(0), -1);
        C.due("year(3, 7, 10)", x.year(3, 7, 10), 0);
        C.due("a year without lookers", x.more(3, 0, 0), 0);
        C.due("and what more it saw", x.more(3, 0, 1), 0);
        C.due("grew: of alike ones the first", x.grew(3), 0);
        C.due("year(29, 1000, 1000)", x.year(29, 1000, 1000), 0);
        C.due("nothing new, cut", x.more(3, 29, 0), 1428);
        C.due("less", x.more(3, 29, 1), -428);
        C.due("by the other", x.more(29, 3, 1), 3);
        C.due("by itself", x.more(3, 3, 1), 0);
        C.due("grew(29)", x.grew(29), 3);
        x.year(5, 1, 4);
        C.due("grew(29), alike", x.grew(29), 3);
        x.year(0, 0, 4);
        C.due("a year without lookers that saw", x.grew(29), 0);
        x.year(29, 1000, 0);
        C.due("grew(29) then", x.grew(29), 3);
        x.year(3, 0, 0);
        C.due("year again", x.more(3, 29, 0), -10000000);
        C.due("grew(3) then", x.grew(3), -1);
        x.year(29, 1, 1000);
        x.year(0, 1000, 0);
        C.due("the most of nothing new", x.more(29, 0, 0), 1000000);
        C.due("the least of more", x.more(29, 0, 1), -1000000);
        x.year(0, 10, 4);
        x.year(1, 30, 20);
        C.due("by the first", x.more(0, 1, 0), 12);
        C.due("more, by the first", x.more(0, 1, 1), 8);
        C.due("grew(0), the last", x.grew(0), 29);
        x.year(29, 1, 8);
        C.due("grew(0), the second", x.grew(0), 1);
        int[][] without = {{-1, 0, 0}, {30, 0, 0}, {29, -1, 0}, {29, 30, 0}, {29, 0, -1}, {29, 0, 2}};
        for (int[] w : without) {
            C.due("more(" + w[0] + ", " + w[1] + ", " + w[2] + ")", x.more(w[0], w[1], w[2]), -10000000);
        }
        C.due("grew(-1)", x.grew(-1), -1);
        C.due("grew(30)", x.grew(30), -1);
    }

    private static void pictures() {
        LakeWatch x = new LakeWatch();
        int[][] wrong = {{-1, 1, 1}, {10, 1, 1}, {0, 0, 1}, {0, 100, 100}, {0, 1, 0}, {0, 1, 100}, {0, 5, 4}};
        for (int[] w : wrong) {
            bad("ripple(" + w[0] + ", " + w[1] + ", " + w[2] + ")", x, now(x), x.ripple(w[0], w[1], w[2]));
        }
        C.due("ripple(9, 5, 99)", x.ripple(9, 5, 99), 0);
        C.due("ripple(0, 7, 7)", x.ripple(0, 7, 7), 0);
        C.due("ripple(5, 99, 99)", x.ripple(5, 99, 99), 0);
        x.day(59, 0, 9);
        C.due("picture, from", x.picture(59, 50, 0), 250);
        C.due("picture, to", x.picture(59, 50, 1), 51 * 99);
        C.due("picture without ripples, from", x.picture(59, 0, 0), 0);
        C.due("picture without ripples, to", x.picture(59, 0, 1), 99);
        C.due("picture without wind", x.picture(58, 2, 0), 14);
        C.due("picture without wind, to", x.picture(58, 2, 1), 21);
        x.day(58, 0, 4);
        C.due("picture by ripples at first", x.picture(58, 2, 1), 3);
        int[][] without = {{-1, 0, 0}, {60, 0, 0}, {0, -1, 0}, {0, 51, 0}, {0, 0, -1}, {0, 0, 2}};
        for (int[] w : without) {
            C.due("picture(" + w[0] + ", " + w[1] + ", " + w[2] + ")", x.picture(w[0], w[1], w[2]), -1);
        }
    }

    private static void refusedWorlds() {
        LakeWatch x = new LakeWatch();
        x.story(1, 1, 1);
        bad("run(0, 0, 0)", x, now(x), x.run(0, 0, 0));
        bad("run(0, 61, 0)", x, now(x), x.run(0, 61, 0));
        bad("run(0, 1, -1)", x, now(x), x.run(0, 1, -1));
        bad("run(0, 1, 1000001)", x, now(x), x.run(0, 1, 1000001));
        bad("run(1, 0, 0): the number first", x, now(x), x.run(1, 0, 0));
        C.refused("run(1, 1, 0)", x, now(x), x.run(1, 1, 0), -2);
        C.refused("run(-1, 1, 0)", x, now(x), x.run(-1, 1, 0), -2);
        C.due("no world was made", x.world(0, -1), -1);
        C.due("run(0, 60, 1000000)", x.run(0, 60, 1000000), 0);
        C.due("a world without watchers", x.world(2, -1), 0);
        C.due("world(0, 0) without watchers", x.world(0, 0), -1);
    }

    private static void worlds() {
        LakeWatch x = new LakeWatch();
        x.watcher(100);
        x.watcher(0);
        x.story(1, 20, 60);
        x.story(1, 0, 60);
        C.due("all look who care", x.run(0, 60, 1), 60);
        C.due("20 times 60 is above 1000", x.world(0, 0), 60);
        C.due("one without care", x.world(0, 1), 0);
        C.due("all", x.world(0, -1), 60);
        C.due("no wakes", x.world(1, -1), 0);
        C.due("no beasts without any", x.run(1, 60, 1), 60);
        C.due("nothing", x.world(2, 0), 60);
        C.due("nothing, of the one without care", x.world(2, 1), 0);
        for (int day = 0; day < 3; day++) {
            x.boat(day, 0, 1439, 24);
            x.day(day, 0, 9);
        }
        x.run(1, 60, 1);
        C.due("no wake is seen by wind 9", x.world(1, -1), 0);
        x.watcher(50);
        C.due("a watcher of later", x.world(2, 2), -1);
        C.due("world(0, -2)", x.world(0, -2), -1);
        C.due("world(-1, 0)", x.world(-1, 0), -1);
        C.due("world(3, -1)", x.world(3, -1), -1);
        x.run(0, 1, -1);
        C.due("a refused run leaves the latest", x.world(2, -1), 60);
    }

    /** Every draw told apart, by the rule of the document, and not by the class. */
    private static void aWorldByHand(int seed) {
        LakeWatch x = new LakeWatch();
        int[] care = {40, 60, 95};
        int[][] seen = new int[3][3];
        for (int c : care) {
            x.watcher(c);
        }
        x.story(1, 7, 40);
        for (int day = 0; day < 30; day++) {
            x.day(day, 0, day % 10);
            x.day(day, 2, (day * 3) % 10);
            if (day % 3 == 1) {
                x.boat(day, day % 2, 1000, 5);
            }
        }
        long s = seed;
        int looked = 0;
        for (int day = 0; day < 40; day++) {
            for (int w = 0; w < 3; w++) {
                s = (s * 1103 + 12345) % 1000003;
                int news = day < 30 ? day * 3 % 10 : 0;
                if (s % 100 < care[w] + news) {
                    looked++;
                    int what = 2;
                    s = (s * 1103 + 12345) % 1000003;
                    if (s % 1000 < 280) {
                        what = 0;
                    } else if (day < 30 && day % 3 == 1) {
                        s = (s * 1103 + 12345) % 1000003;
                        what = s % 10 > day % 10 ? 1 : 2;
                    }
                    seen[w][what]++;
                }
            }
        }
        C.due("looked", x.run(0, 40, seed), looked);
        for (int what = 0; what < 3; what++) {
            for (int w = 0; w < 3; w++) {
                C.due("world(" + what + ", " + w + ")", x.world(what, w), seen[w][what]);
            }
            C.due("world(" + what + ", -1)", x.world(what, -1), seen[0][what] + seen[1][what] + seen[2][what]);
        }
        if (seed == 3331) {
            C.due("some of each", seen[0][0] > 0 && seen[2][1] > 0 && seen[2][2] > 0 ? 1 : 0, 1);
        }
    }
}
