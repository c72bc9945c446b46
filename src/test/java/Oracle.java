import java.math.BigInteger;
import java.util.ArrayList;
import java.util.Arrays;
import java.util.List;
import java.util.regex.Matcher;
import java.util.regex.Pattern;

/** The document written down once more, in the plainest Java and by none of the class's ways: to hold answers against. */
final class Oracle {
    private static final int NOTHING = -10000000;
    private static final String[] WORDS = LawTexts.NAMES;
    private static final List<String> HEADS = List.of(LawTexts.HEADS);

    /** What IMAGES keep. */
    private static final class Kept {
        int[][] days = new int[60][3];
        int[][] years = new int[30][2];
        int[][] ripples = new int[10][2];
        int[] kin = {2, 100, 1};
        List<int[]> boats = new ArrayList<>();
        List<int[]> beasts = new ArrayList<>();
        List<int[]> logs = new ArrayList<>();
        List<int[]> watchers = new ArrayList<>();
        List<int[]> poles = new ArrayList<>();
        List<int[]> sights = new ArrayList<>();
        List<int[]> stories = new ArrayList<>();
        List<int[]> sweeps = new ArrayList<>();
        List<int[]> offers = new ArrayList<>();
        List<Clause> law = new ArrayList<>();

        Kept() {
            for (int[] ripple : ripples) {
                Arrays.fill(ripple, 1);
            }
        }

        Kept(Kept other) {
            for (int i = 0; i < 60; i++) {
                days[i] = other.days[i].clone();
            }
            for (int i = 0; i < 30; i++) {
                years[i] = other.years[i].clone();
            }
            for (int i = 0; i < 10; i++) {
                ripples[i] = other.ripples[i].clone();
            }
            kin = other.kin.clone();
            boats.addAll(other.boats);
            beasts.addAll(other.beasts);
            logs.addAll(other.logs);
            watchers.addAll(other.watchers);
            poles.addAll(other.poles);
            sights.addAll(other.sights);
            stories.addAll(other.stories);
            sweeps.addAll(other.sweeps);
            offers.addAll(other.offers);
            law.addAll(other.law);
        }
    }

    private record Clause(int head, Model.Tree sum, Model.Tree test) {
    }

    private static final class Fault extends Exception {
        private static final long serialVersionUID = 1L;
        final int place;

        Fault(int place) {
            this.place = place;
        }
    }

    private Kept now = new Kept();
    private final Kept[] images = new Kept[2];
    private final List<Integer> tape = new ArrayList<>();
    private int[][] world = null;
    private final int[] refusals = new int[7];
    private int status = 0;
    private int fault = -1;
    private int cousins = 0;

    private int no(int why) {
        status = why;
        refusals[-why]++;
        return why;
    }

    private int yes(int answer) {
        status = 0;
        return answer;
    }

    private static boolean in(int n, int least, int greatest) {
        return least <= n && n <= greatest;
    }

    private static boolean has(List<?> list, int i) {
        return in(i, 0, list.size() - 1);
    }

    private int add(List<int[]> list, int room, int... row) {
        if (list.size() == room) {
            return no(-5);
        }
        list.add(row);
        return yes(list.size() - 1);
    }

    int day(int day, int what, int value) {
        if (!in(day, 0, 59) || !in(what, 0, 2) || !in(value, 0, 9)) {
            return no(-1);
        }
        int was = now.days[day][what];
        now.days[day][what] = value;
        return yes(was);
    }

    int boat(int day, int way, int minute, int speed) {
        boolean can = in(day, 0, 59) && in(way, 0, 1) && in(minute, 0, 1439) && in(speed, 1, 24);
        return can ? add(now.boats, 12, day, way, minute, speed) : no(-1);
    }

    int beast(int day, int place, int from, int to) {
        boolean can = in(day, 0, 59) && in(place, 0, 23) && in(from, 0, 1439) && in(to, 0, 1439) && from <= to;
        return can ? add(now.beasts, 12, day, place, from, to) : no(-1);
    }

    int log(int day, int place) {
        return in(day, 0, 59) && in(place, 0, 23) ? add(now.logs, 12, day, place) : no(-1);
    }

    int watcher(int care) {
        return in(care, 0, 100) ? add(now.watchers, 12, care) : no(-1);
    }

    int pole(int watcher, int height, int drawn) {
        if (!in(height, 1, 99) || !in(drawn, 1, 200)) {
            return no(-1);
        }
        return has(now.watchers, watcher) ? add(now.poles, 20, watcher, height, drawn) : no(-2);
    }

    private boolean sightCanBe(int[] s) {
        return in(s[0], 0, 59) && in(s[1], 0, 1439) && in(s[2], 0, 23) && in(s[4], 0, 9) && in(s[5], 1, 200)
            && in(s[6], 0, 59) && s[6] >= s[0];
    }

    int sight(int day, int minute, int place, int watcher, int humps, int length, int told) {
        int[] row = {day, minute, place, watcher, humps, length, told};
        if (!sightCanBe(row)) {
            return no(-1);
        }
        return has(now.watchers, watcher) ? add(now.sights, 40, row) : no(-2);
    }

    int feed(int a, int b, int c, int d, int e) {
        if (tape.size() + 20 > 400) {
            return -1;
        }
        for (int n : new int[] {a, b, c, d, e}) {
            for (int i = 3; i >= 0; i--) {
                tape.add((n >>> (8 * i)) & 255);
            }
        }
        return tape.size();
    }

    int end(int n) {
        if (n < 0 || n > tape.size()) {
            return -1;
        }
        tape.subList(n, tape.size()).clear();
        return n;
    }

    int row() {
        if (tape.isEmpty()) {
            return no(-6);
        }
        int came = 0;
        cousins = 0;
        for (int at = 0; at < tape.size(); at += 7) {
            boolean comes = false;
            if (at + 7 <= tape.size()) {
                int[] s = new int[7];
                for (int i = 0; i < 7; i++) {
                    s[i] = tape.get(at + i);
                }
                s[1] *= 10;
                s[6] += s[0];
                comes = sightCanBe(s) && has(now.watchers, s[3]) && now.sights.size() < 40;
                if (comes) {
                    now.sights.add(s);
                }
            }
            came += comes ? 1 : 0;
            cousins += comes ? 0 : 1;
        }
        tape.clear();
        return yes(came);
    }

    int cousins() {
        return cousins;
    }

    int law() {
        StringBuilder text = new StringBuilder();
        for (int sign : tape) {
            text.append((char) sign);
        }
        tape.clear();
        try {
            now.law = new TextOfLaw(text.toString()).read();
            fault = -1;
            return yes(now.law.size());
        } catch (Fault f) {
            fault = f.place;
            return no(-6);
        }
    }

    int fault() {
        return fault;
    }

    private static final class TextOfLaw {
        private final List<String> tokens = new ArrayList<>();
        private final List<Integer> places = new ArrayList<>();
        private int at = 0;
        private int parts = 0;

        TextOfLaw(String text) {
            Matcher matcher = Pattern.compile("[a-z]+|[0-9]+|[^ ]", Pattern.DOTALL).matcher(text);
            while (matcher.find()) {
                tokens.add(matcher.group());
                places.add(matcher.start());
            }
            tokens.add("");
            places.add(text.length());
        }

        private String token() {
            return tokens.get(at);
        }

        private boolean take(String token) {
            boolean taken = token().equals(token);
            at += taken ? 1 : 0;
            return taken;
        }

        private Fault fault() {
            return new Fault(places.get(at));
        }

        private void need(String token) throws Fault {
            if (!take(token)) {
                throw fault();
            }
        }

        List<Clause> read() throws Fault {
            List<Clause> clauses = new ArrayList<>();
            do {
                if (clauses.size() == 12) {
                    throw fault();
                }
                clauses.add(clause());
            } while (take(";"));
            need("");
            return clauses;
        }

        private Clause clause() throws Fault {
            int head = HEADS.indexOf(token());
            if (head < 0) {
                throw fault();
            }
            at++;
            Model.Tree sum = sum(0);
            return new Clause(head, sum, take("if") ? test(0) : null);
        }

        private Model.Tree test(int depth) throws Fault {
            Model.Tree tree = both(depth);
            while (take("or")) {
                tree = new Model.Tree("or", tree, both(depth), 0);
            }
            return tree;
        }

        private Model.Tree both(int depth) throws Fault {
            Model.Tree tree = plain(depth);
            while (take("and")) {
                tree = new Model.Tree("and", tree, plain(depth), 0);
            }
            return tree;
        }

        private Model.Tree plain(int depth) throws Fault {
            if (take("not")) {
                return new Model.Tree("not", plain(depth), null, 0);
            }
            if (token().equals("(")) {
                open(depth);
                Model.Tree tree = test(depth + 1);
                need(")");
                return tree;
            }
            Model.Tree left = sum(depth);
            String sign = token();
            if (!sign.equals("<") && !sign.equals(">") && !sign.equals("=")) {
                throw fault();
            }
            at++;
            return new Model.Tree(sign, left, sum(depth), 0);
        }

        private void open(int depth) throws Fault {
            if (depth == 8) {
                throw fault();
            }
            at++;
        }

        private Model.Tree sum(int depth) throws Fault {
            Model.Tree tree = term(depth);
            while (token().equals("+") || token().equals("-")) {
                String sign = tokens.get(at++);
                tree = new Model.Tree(sign, tree, term(depth), 0);
            }
            return tree;
        }

        private Model.Tree term(int depth) throws Fault {
            Model.Tree tree = part(depth);
            while (token().equals("*") || token().equals("/")) {
                String sign = tokens.get(at++);
                tree = new Model.Tree(sign, tree, part(depth), 0);
            }
            return tree;
        }

        private Model.Tree part(int depth) throws Fault {
            if (token().equals("[")) {
                open(depth);
                Model.Tree tree = sum(depth + 1);
                need("]");
                return tree;
            }
            boolean isNumber = token().matches("[0-9]+");
            boolean isWord = Arrays.asList(WORDS).contains(token());
            if (!isNumber && !isWord || ++parts > 50) {
                throw fault();
            }
            if (isNumber && new BigInteger(token()).compareTo(BigInteger.valueOf(100000)) > 0) {
                throw fault();
            }
            String token = tokens.get(at++);
            return isWord ? new Model.Tree(token, null, null, 0)
                : new Model.Tree("number", null, null, Long.parseLong(token));
        }
    }

    private int gone(int[] s) {
        int gone = Integer.MAX_VALUE;
        for (int[] boat : now.boats) {
            int steps = boat[1] == 0 ? s[2] : 23 - s[2];
            int ago = s[1] - (boat[2] + steps * boat[3]);
            if (boat[0] == s[0] && ago >= 0) {
                gone = Math.min(gone, ago);
            }
        }
        return gone == Integer.MAX_VALUE ? 0 : gone;
    }

    /** What the law tells of a SIGHT: of the five causes, and by how much it grew. */
    private int[] tells(int[] s) {
        int[] day = now.days[s[0]];
        long[] words = {s[4], s[5], day[0], day[1], day[2], gone(s), s[2], s[1], s[6] - s[0]};
        int[] tells = {0, 0, 0, 0, 0, 100};
        for (Clause clause : now.law) {
            try {
                if (clause.test == null || clause.test.ask(WORDS, words) == 1) {
                    long told = clause.sum.ask(WORDS, words);
                    tells[clause.head] = (int) Math.max(clause.head == 5 ? 1 : 0, Math.min(1000, told));
                }
            } catch (Model.Broken broken) {
                continue;
            }
        }
        return tells;
    }

    private boolean[] isThere(int[] s) {
        boolean[] there = {in(gone(s), 1, 60), false, false, now.days[s[0]][1] > 0, true};
        for (int[] beast : now.beasts) {
            there[1] |= beast[0] == s[0] && in(s[1], beast[2], beast[3]) && in(s[2], beast[1] - 1, beast[1] + 1);
        }
        for (int[] log : now.logs) {
            there[2] |= log[0] == s[0] && log[1] == s[2];
        }
        return there;
    }

    /** Of the five causes, and all together. */
    private int[] weights(int[] s) {
        int[] weights = new int[6];
        int[] tells = tells(s);
        boolean[] there = isThere(s);
        for (int cause = 0; cause < 5; cause++) {
            weights[cause] = there[cause] ? tells[cause] : 0;
            weights[5] += weights[cause];
        }
        return weights;
    }

    int of(int sight, int what) {
        if (!has(now.sights, sight) || !in(what, 0, 8)) {
            return -1;
        }
        int[] s = now.sights.get(sight);
        return what == 7 ? gone(s) : what == 8 ? tells(s)[5] : s[what];
    }

    int there(int sight) {
        if (!has(now.sights, sight)) {
            return -1;
        }
        int bits = 0;
        boolean[] there = isThere(now.sights.get(sight));
        for (int cause = 0; cause < 5; cause++) {
            bits += there[cause] ? 1 << cause : 0;
        }
        return bits;
    }

    int odds(int sight, int cause, int part) {
        if (!has(now.sights, sight) || !in(cause, 0, 4) || !in(part, 0, 1)) {
            return -1;
        }
        int[] weights = weights(now.sights.get(sight));
        if (weights[5] == 0) {
            return -1;
        }
        int shared = BigInteger.valueOf(weights[cause]).gcd(BigInteger.valueOf(weights[5])).intValue();
        return weights[part == 0 ? cause : 5] / shared;
    }

    int unknown(int what, int i) {
        List<Integer> unknown = new ArrayList<>();
        for (int sight = 0; sight < now.sights.size(); sight++) {
            if (weights(now.sights.get(sight))[5] == 0) {
                unknown.add(sight);
            }
        }
        return what == 0 ? unknown.size() : what == 1 && has(unknown, i) ? unknown.get(i) : -1;
    }

    int span(int sight, int part) {
        if (!has(now.sights, sight) || !in(part, 0, 1)) {
            return -1;
        }
        int[] s = now.sights.get(sight);
        List<int[]> own = new ArrayList<>();
        for (int[] pole : now.poles) {
            if (pole[0] == s[3]) {
                own.add(pole);
            }
        }
        List<int[]> by = own.isEmpty() ? now.poles : own;
        List<Integer> large = new ArrayList<>();
        for (int[] pole : by) {
            large.add(s[5] * 100 * pole[1] / (tells(s)[5] * pole[2]));
        }
        if (large.isEmpty()) {
            large.add(s[5] * 100 / tells(s)[5]);
        }
        large.sort(null);
        return large.get(part == 0 ? 0 : large.size() - 1);
    }

    int most(int cause) {
        if (!in(cause, 0, 4)) {
            return -1;
        }
        int met = 0;
        for (int[] s : now.sights) {
            int[] weights = weights(s);
            int best = 0;
            for (int other = 1; other < 5; other++) {
                best = weights[other] > weights[best] ? other : best;
            }
            met += weights[5] > 0 && best == cause ? 1 : 0;
        }
        return met;
    }

    int story(int weight, int number, int size) {
        boolean can = in(weight, 0, 100) && in(number, 0, 20) && in(size, 1, 60);
        return can ? add(now.stories, 6, weight, number, size) : no(-1);
    }

    int sweep(int part, int least, int falsely, int heard) {
        boolean can = in(part, 0, 100) && in(least, 1, 60) && in(falsely, 0, 99) && in(heard, 0, 1);
        return can ? add(now.sweeps, 12, part, least, falsely, heard) : no(-1);
    }

    private int[] likelihoods(List<int[]> sweeps) {
        BigInteger all = BigInteger.ZERO;
        List<BigInteger> counts = new ArrayList<>();
        for (int[] s : now.stories) {
            counts.add(Model.countOf(s[0], s[1], s[2], sweeps));
            all = all.add(counts.get(counts.size() - 1));
        }
        int[] odds = new int[counts.size()];
        for (int i = 0; i < odds.length; i++) {
            odds[i] = Model.millionths(counts.get(i), all);
        }
        return odds;
    }

    int likely(int story) {
        return has(now.stories, story) ? likelihoods(now.sweeps)[story] : -1;
    }

    int moved(int story, int sweep) {
        if (!has(now.stories, story) || !has(now.sweeps, sweep)) {
            return NOTHING;
        }
        List<int[]> without = new ArrayList<>(now.sweeps);
        without.remove(sweep);
        return likelihoods(now.sweeps)[story] - likelihoods(without)[story];
    }

    int kin(int what, int value) {
        int[][] bounds = {{0, 50}, {0, 10000}, {1, 100}};
        if (!in(what, 0, 2) || !in(value, bounds[what][0], bounds[what][1])) {
            return no(-1);
        }
        int was = now.kin[what];
        now.kin[what] = value;
        return yes(was);
    }

    int lot(int what) {
        if (!in(what, 0, 60)) {
            return -1;
        }
        int bits = 0;
        for (int i = 0; i < now.stories.size(); i++) {
            int[] s = now.stories.get(i);
            boolean canBe = s[1] == 0 || s[1] >= now.kin[0] && s[1] * s[2] * now.kin[2] <= now.kin[1];
            bits += canBe ? 1 << i : 0;
        }
        return what == 0 ? bits : now.kin[1] / (what * now.kin[2]);
    }

    int offer(int part, int least, int falsely, int cost) {
        boolean can = in(part, 0, 100) && in(least, 1, 60) && in(falsely, 0, 99) && in(cost, 1, 100);
        return can ? add(now.offers, 10, part, least, falsely, cost) : no(-1);
    }

    private int said(int set, int[] odds) {
        long said = 0;
        for (int story = 0; story < odds.length; story++) {
            int[] s = now.stories.get(story);
            long silent = 1000000;
            for (int i = 0; i < now.offers.size(); i++) {
                int[] offer = now.offers.get(i);
                if ((set >> i) % 2 == 1) {
                    for (int n = 0; n < s[1] && s[2] >= offer[1]; n++) {
                        silent = silent * (100 - offer[0]) / 100;
                    }
                    silent = silent * (100 - offer[2]) / 100;
                }
            }
            said += odds[story] * (1000000 - silent) / 1000000;
        }
        return (int) said;
    }

    int says(int offers) {
        return in(offers, 0, (1 << now.offers.size()) - 1) ? said(offers, likelihoods(now.sweeps)) : -1;
    }

    int plan(int coins) {
        if (!in(coins, 0, 1000)) {
            return -1;
        }
        int[] odds = likelihoods(now.sweeps);
        int best = 0;
        int bestSaid = 0;
        int bestCost = 0;
        for (int set = 1; set < 1 << now.offers.size(); set++) {
            int cost = 0;
            for (int i = 0; i < now.offers.size(); i++) {
                cost += (set >> i) % 2 * now.offers.get(i)[3];
            }
            int said = cost <= coins ? said(set, odds) : -1;
            if (said > bestSaid || said == bestSaid && cost < bestCost) {
                best = set;
                bestSaid = said;
                bestCost = cost;
            }
        }
        return best;
    }

    int year(int year, int lookers, int seen) {
        if (!in(year, 0, 29) || !in(lookers, 0, 1000) || !in(seen, 0, 1000)) {
            return no(-1);
        }
        now.years[year] = new int[] {lookers, seen};
        return yes(0);
    }

    int more(int base, int year, int what) {
        if (!in(base, 0, 29) || !in(year, 0, 29) || !in(what, 0, 1) || now.years[base][0] == 0) {
            return NOTHING;
        }
        int nothingNew = now.years[year][0] * now.years[base][1] / now.years[base][0];
        return what == 0 ? nothingNew : now.years[year][1] - nothingNew;
    }

    int grew(int base) {
        if (!in(base, 0, 29) || now.years[base][0] == 0) {
            return -1;
        }
        int best = 29;
        for (int year = 28; year >= 0; year--) {
            best = more(base, year, 1) >= more(base, best, 1) ? year : best;
        }
        return best;
    }

    int ripple(int wind, int low, int high) {
        if (!in(wind, 0, 9) || !in(low, 1, 99) || !in(high, 1, 99) || low > high) {
            return no(-1);
        }
        now.ripples[wind] = new int[] {low, high};
        return yes(0);
    }

    int picture(int day, int n, int part) {
        if (!in(day, 0, 59) || !in(n, 0, 50) || !in(part, 0, 1)) {
            return -1;
        }
        return (n + part) * now.ripples[now.days[day][0]][part];
    }

    int run(int story, int days, int seed) {
        if (!in(days, 1, 60) || !in(seed, 0, 1000000)) {
            return no(-1);
        }
        if (!has(now.stories, story)) {
            return no(-2);
        }
        world = new int[now.watchers.size()][3];
        long[] s = {seed};
        int looked = 0;
        for (int day = 0; day < days; day++) {
            for (int watcher = 0; watcher < world.length; watcher++) {
                if (draw(s, 100) < now.watchers.get(watcher)[0] + now.days[day][2]) {
                    looked++;
                    world[watcher][sees(now.stories.get(story), day, s)]++;
                }
            }
        }
        return yes(looked);
    }

    private int sees(int[] story, int day, long[] s) {
        if (draw(s, 1000) < story[1] * story[2]) {
            return 0;
        }
        for (int[] boat : now.boats) {
            if (boat[0] == day) {
                return draw(s, 10) > now.days[day][0] ? 1 : 2;
            }
        }
        return 2;
    }

    private static long draw(long[] s, int m) {
        s[0] = (s[0] * 1103 + 12345) % 1000003;
        return s[0] % m;
    }

    int world(int what, int watcher) {
        if (world == null || !in(what, 0, 2) || !in(watcher, -1, world.length - 1)) {
            return -1;
        }
        int sum = 0;
        for (int w = 0; w < world.length; w++) {
            sum += watcher == -1 || watcher == w ? world[w][what] : 0;
        }
        return sum;
    }

    int image(int k) {
        if (!in(k, 0, 1)) {
            return no(-1);
        }
        images[k] = new Kept(now);
        return yes(0);
    }

    int back(int k) {
        if (!in(k, 0, 1)) {
            return no(-1);
        }
        if (images[k] == null) {
            return no(-2);
        }
        now = new Kept(images[k]);
        return yes(0);
    }

    int count(int what) {
        int[] counts = {now.boats.size(), now.beasts.size(), now.logs.size(), now.watchers.size(), now.poles.size(),
            now.sights.size(), now.law.size(), now.stories.size(), now.sweeps.size(), now.offers.size(), tape.size(),
            refusals[1], refusals[2], refusals[5], refusals[6]};
        return in(what, 0, 14) ? counts[what] : -1;
    }

    int status() {
        return status;
    }
}
