import java.math.BigInteger;
import java.util.ArrayList;
import java.util.List;
import java.util.Random;

/** Promises 13, 15, 17, 23, 24, 28 and 29 again, on many made-up lakes, against sums made another way. */
public final class ModelTest {
    private static final Check C = new Check("ModelTest");
    public static void main(String[] args) {
        for (int seed = 0; seed < 3000; seed++) {
            laws(new Random(seed));
        }
        for (int seed = 0; seed < 150; seed++) {
            stories(new Random(seed));
        }
        C.done();
    }

    private static void laws(Random random) {
        LakeWatch x = new LakeWatch();
        int wind = random.nextInt(10);
        int bend = random.nextInt(3);
        int news = random.nextInt(10);
        int minute = random.nextInt(1440);
        int place = random.nextInt(24);
        int gone = Math.min(random.nextInt(90), minute);
        int humps = random.nextInt(10);
        int length = 1 + random.nextInt(200);
        int late = random.nextInt(50);
        x.day(9, 0, wind);
        x.day(9, 1, bend);
        x.day(9, 2, news);
        x.watcher(1);
        int way = random.nextInt(2);
        int steps = way == 0 ? place : 23 - place;
        boolean boat = minute - gone - steps >= 0;
        if (boat) {
            x.boat(9, way, minute - gone - steps, 1);
        } else {
            gone = 0;
        }
        x.sight(9, minute, place, 0, humps, length, 9 + late);
        long[] words = {humps, length, wind, bend, news, gone, place, minute, late};
        long[] tells = {0, 0, 0, 0, 0, 100};
        StringBuilder text = new StringBuilder();
        int clauses = 1 + random.nextInt(3);
        for (int n = 0; n < clauses; n++) {
            int head = random.nextInt(2) == 0 ? 5 : random.nextInt(6);
            Model.Tree sum = Model.sum(random, LawTexts.NAMES, 1 + random.nextInt(2));
            Model.Tree test = random.nextInt(3) == 0 ? null : Model.test(random, LawTexts.NAMES, 2);
            text.append(n == 0 ? "" : ";").append(LawTexts.HEADS[head]).append(' ').append(sum.text());
            if (test != null) {
                text.append(" if ").append(test.text());
            }
            hear(tells, head, sum, test, words);
        }
        if (text.length() > 400 || partsOf(text.toString()) > 50) {
            return;
        }
        C.due(text.toString(), Tapes.law(x, text.toString()), clauses);
        C.due("GREW by " + text, x.of(0, 8), tells[5]);
        boolean[] there = {gone >= 1 && gone <= 60, false, false, bend > 0, true};
        long all = 0;
        for (int cause = 0; cause < 5; cause++) {
            all += there[cause] ? tells[cause] : 0;
        }
        for (int cause = 0; cause < 5; cause++) {
            long own = there[cause] ? tells[cause] : 0;
            long shared = BigInteger.valueOf(own).gcd(BigInteger.valueOf(all)).longValue();
            C.due("upper odds by " + text, x.odds(0, cause, 0), all == 0 ? -1 : own / shared);
            C.due("lower odds by " + text, x.odds(0, cause, 1), all == 0 ? -1 : all / shared);
        }
    }

    private static void hear(long[] tells, int head, Model.Tree sum, Model.Tree test, long[] words) {
        try {
            if (test == null || test.ask(LawTexts.NAMES, words) == 1) {
                tells[head] = Math.max(head == 5 ? 1 : 0, Math.min(1000, sum.ask(LawTexts.NAMES, words)));
            }
        } catch (Model.Broken broken) {
            // The clause does not hold, so nothing is told.
        }
    }

    private static int partsOf(String text) {
        int parts = 0;
        for (String token : text.split("[^a-z0-9]+")) {
            boolean isPart = token.matches("[0-9]+") || java.util.Arrays.asList(LawTexts.NAMES).contains(token);
            parts += isPart ? 1 : 0;
        }
        return parts;
    }

    private static void stories(Random random) {
        LakeWatch x = new LakeWatch();
        List<int[]> stories = new ArrayList<>();
        List<int[]> sweeps = new ArrayList<>();
        List<int[]> offers = new ArrayList<>();
        for (int n = random.nextInt(7); n > 0; n--) {
            int[] s = {random.nextInt(101), random.nextInt(21), 1 + random.nextInt(60)};
            stories.add(s);
            x.story(s[0], s[1], s[2]);
        }
        for (int n = random.nextInt(13); n > 0; n--) {
            int[] s = {random.nextInt(40), 1 + random.nextInt(60), random.nextInt(100), random.nextInt(2)};
            sweeps.add(s);
            x.sweep(s[0], s[1], s[2], s[3]);
        }
        for (int n = random.nextInt(11); n > 0; n--) {
            int[] o = {random.nextInt(30), 1 + random.nextInt(60), random.nextInt(20), 1 + random.nextInt(30)};
            offers.add(o);
            x.offer(o[0], o[1], o[2], o[3]);
        }
        int[] odds = odds(stories, sweeps);
        for (int s = 0; s < odds.length; s++) {
            C.due("likely(" + s + ")", x.likely(s), odds[s]);
        }
        for (int w = 0; w < sweeps.size(); w++) {
            List<int[]> without = new ArrayList<>(sweeps);
            without.remove(w);
            int[] before = odds(stories, without);
            for (int s = 0; s < odds.length; s++) {
                C.due("moved(" + s + ", " + w + ")", x.moved(s, w), odds[s] - before[s]);
            }
        }
        plans(x, random.nextInt(150), stories, offers, odds);
    }

    private static int[] odds(List<int[]> stories, List<int[]> sweeps) {
        BigInteger all = BigInteger.ZERO;
        for (int[] s : stories) {
            all = all.add(Model.countOf(s[0], s[1], s[2], sweeps));
        }
        int[] odds = new int[stories.size()];
        for (int n = 0; n < odds.length; n++) {
            int[] s = stories.get(n);
            odds[n] = Model.millionths(Model.countOf(s[0], s[1], s[2], sweeps), all);
        }
        return odds;
    }

    private static void plans(LakeWatch x, int coins, List<int[]> stories, List<int[]> offers, int[] odds) {
        int best = 0;
        long bestSaid = 0;
        int bestCost = 0;
        for (int set = 0; set < 1 << offers.size(); set++) {
            long said = 0;
            int cost = 0;
            for (int o = 0; o < offers.size(); o++) {
                cost += (set >> o & 1) * offers.get(o)[3];
            }
            for (int s = 0; s < odds.length; s++) {
                said += odds[s] * (1000000 - silent(set, stories.get(s), offers)) / 1000000;
            }
            if (set % 16 == coins % 16) {
                C.due("says(" + set + ")", x.says(set), said);
            }
            if (cost <= coins && (said > bestSaid || said == bestSaid && cost < bestCost)) {
                best = set;
                bestSaid = said;
                bestCost = cost;
            }
        }
        C.due("plan(" + coins + ")", x.plan(coins), best);
    }

    private static long silent(int set, int[] story, List<int[]> offers) {
        long silent = 1000000;
        for (int o = 0; o < offers.size(); o++) {
            int[] offer = offers.get(o);
            if ((set >> o & 1) == 1) {
                for (int n = 0; n < story[1] && story[2] >= offer[1]; n++) {
                    silent = silent * (100 - offer[0]) / 100;
                }
                silent = silent * (100 - offer[2]) / 100;
            }
        }
        return silent;
    }
}
