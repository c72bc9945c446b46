import java.util.Arrays;

/**
 * A lake that is watched: sights and what could give them, poles, stories weighed by sweeps,
 * years of lookers, pictures and worlds. The project's document says what each call answers.
 */
public final class LakeWatch {
    public static final int NONE = -1;

    private static final int NOTHING = -10000000;
    private static final int MILLION = 1000000;

    private static final int BAD_NUMBER = -1;
    private static final int NO_SUCH = -2;
    private static final int NO_ROOM = -5;
    private static final int BAD_TEXT = -6;

    private static final int DAYS = 60;
    private static final int MINUTES = 1440;
    private static final int PLACES = 24;
    private static final int YEARS = 30;
    private static final int WINDS = 10;
    private static final int IMAGES = 2;
    private static final int MOST_WATCHERS = 12;
    private static final int MOST_STORIES = 6;
    private static final int MOST_OFFERS = 10;
    private static final int MOST_SIZE = 60;
    private static final int MOST_NUMBER = 20;
    private static final int MOST_BYTES = 400;
    private static final int ROW_BYTES = 7;

    private static final int WAKE = 0;
    private static final int BEAST = 1;
    private static final int LOG = 2;
    private static final int BENT = 3;
    private static final int MADE = 4;
    private static final int CAUSES = 5;

    private final Lake lake = new Lake();
    private final Lake[] images = new Lake[IMAGES];
    private final boolean[] kept = new boolean[IMAGES];
    private final Tape tape = new Tape();
    private final LawReader reader = new LawReader();
    private final Asker asker = new Asker();
    private final Scales scales = new Scales();
    private final Planner planner = new Planner();
    private final World latestWorld = new World();
    private final int[] refusals = new int[4];
    private int latestRefusal = 0;
    private int latestFault = NONE;
    private int latestCousins = 0;

    public LakeWatch() {
        for (int k = 0; k < IMAGES; k++) {
            images[k] = new Lake();
        }
    }

    public int day(int day, int what, int value) {
        if (!within(day, 0, DAYS - 1) || !within(what, 0, 2) || !within(value, 0, 9)) {
            return refuse(BAD_NUMBER);
        }
        return accept(lake.days.exchange(day, what, value));
    }

    public int boat(int day, int way, int minute, int speed) {
        if (!within(day, 0, DAYS - 1) || !within(way, 0, 1) || !within(minute, 0, MINUTES - 1)
                || !within(speed, 1, 24)) {
            return refuse(BAD_NUMBER);
        }
        return addTo(lake.boats, day, way, minute, speed);
    }

    public int beast(int day, int place, int from, int to) {
        if (!within(day, 0, DAYS - 1) || !within(place, 0, PLACES - 1) || !within(from, 0, MINUTES - 1)
                || !within(to, from, MINUTES - 1)) {
            return refuse(BAD_NUMBER);
        }
        return addTo(lake.beasts, day, place, from, to);
    }

    public int log(int day, int place) {
        if (!within(day, 0, DAYS - 1) || !within(place, 0, PLACES - 1)) {
            return refuse(BAD_NUMBER);
        }
        return addTo(lake.logs, day, place, 0, 0);
    }

    public int watcher(int care) {
        if (!within(care, 0, 100)) {
            return refuse(BAD_NUMBER);
        }
        return addTo(lake.watchers, care, 0, 0, 0);
    }

    public int pole(int watcher, int height, int drawn) {
        if (!within(height, 1, 99) || !within(drawn, 1, 200)) {
            return refuse(BAD_NUMBER);
        }
        if (!lake.watchers.holds(watcher)) {
            return refuse(NO_SUCH);
        }
        return addTo(lake.poles, watcher, height, drawn, 0);
    }

    public int sight(int day, int minute, int place, int watcher, int humps, int length, int told) {
        int why = lake.whyNoSight(day, minute, place, watcher, humps, length, told);
        if (why != 0) {
            return refuse(why);
        }
        return accept(lake.addSight(day, minute, place, watcher, humps, length, told));
    }

    public int feed(int a, int b, int c, int d, int e) {
        if (!tape.hasRoomForFiveNumbers()) {
            return NONE;
        }
        tape.addNumber(a);
        tape.addNumber(b);
        tape.addNumber(c);
        tape.addNumber(d);
        tape.addNumber(e);
        return tape.size();
    }

    public int end(int n) {
        if (!within(n, 0, tape.size())) {
            return NONE;
        }
        tape.cutTo(n);
        return n;
    }

    public int row() {
        if (tape.size() == 0) {
            return refuse(BAD_TEXT);
        }
        int came = 0;
        int strangers = 0;
        for (int from = 0; from < tape.size(); from += ROW_BYTES) {
            if (sightCameFrom(from)) {
                came++;
            } else {
                strangers++;
            }
        }
        tape.cutTo(0);
        latestCousins = strangers;
        return accept(came);
    }

    public int cousins() {
        return latestCousins;
    }

    public int law() {
        reader.read(tape);
        latestFault = reader.faultPlace();
        tape.cutTo(0);
        if (latestFault != NONE) {
            return refuse(BAD_TEXT);
        }
        lake.law.copyFrom(reader.draft());
        return accept(lake.law.size());
    }

    public int fault() {
        return latestFault;
    }

    public int of(int sight, int what) {
        if (!lake.sights.holds(sight) || !within(what, 0, 8)) {
            return NONE;
        }
        if (what == 7) {
            return lake.goneAtSight(sight);
        }
        if (what == 8) {
            asker.ask(lake, sight);
            return asker.hundredths();
        }
        return lake.sights.get(sight, what);
    }

    public int there(int sight) {
        if (!lake.sights.holds(sight)) {
            return NONE;
        }
        return lake.causesOf(sight);
    }

    public int odds(int sight, int cause, int part) {
        if (!lake.sights.holds(sight) || !within(cause, 0, CAUSES - 1) || !within(part, 0, 1)) {
            return NONE;
        }
        asker.ask(lake, sight);
        int all = asker.weightOfAll();
        int weight = asker.weightOf(cause);
        int shared = greatestDivisor(weight, all);
        if (all == 0 || shared == 0) {
            return NONE;
        }
        return part == 0 ? weight / shared : all / shared;
    }

    public int unknown(int what, int i) {
        if (!within(what, 0, 1)) {
            return NONE;
        }
        int met = 0;
        for (int sight = 0; sight < lake.sights.size(); sight++) {
            asker.ask(lake, sight);
            if (asker.weightOfAll() == 0) {
                if (what == 1 && met == i) {
                    return sight;
                }
                met++;
            }
        }
        return what == 0 ? met : NONE;
    }

    public int span(int sight, int part) {
        if (!lake.sights.holds(sight) || !within(part, 0, 1)) {
            return NONE;
        }
        asker.ask(lake, sight);
        return lake.spanOf(sight, part, asker.hundredths());
    }

    public int most(int cause) {
        if (!within(cause, 0, CAUSES - 1)) {
            return NONE;
        }
        int met = 0;
        for (int sight = 0; sight < lake.sights.size(); sight++) {
            asker.ask(lake, sight);
            if (asker.likeliestCause() == cause) {
                met++;
            }
        }
        return met;
    }

    public int story(int weight, int number, int size) {
        if (!within(weight, 0, 100) || !within(number, 0, MOST_NUMBER) || !within(size, 1, MOST_SIZE)) {
            return refuse(BAD_NUMBER);
        }
        return addTo(lake.stories, weight, number, size, 0);
    }

    public int sweep(int part, int least, int falsely, int heard) {
        if (!canListen(part, least, falsely) || !within(heard, 0, 1)) {
            return refuse(BAD_NUMBER);
        }
        return addTo(lake.sweeps, part, least, falsely, heard);
    }

    public int likely(int story) {
        if (!lake.stories.holds(story)) {
            return NONE;
        }
        scales.weigh(lake, NONE);
        return scales.oddsOf(story);
    }

    public int moved(int story, int sweep) {
        if (!lake.stories.holds(story) || !lake.sweeps.holds(sweep)) {
            return NOTHING;
        }
        scales.weigh(lake, NONE);
        int with = scales.oddsOf(story);
        scales.weigh(lake, sweep);
        return with - scales.oddsOf(story);
    }

    public int kin(int what, int value) {
        if (!kinCanBe(what, value)) {
            return refuse(BAD_NUMBER);
        }
        return accept(lake.kin.exchange(0, what, value));
    }

    public int lot(int what) {
        if (!within(what, 0, MOST_SIZE)) {
            return NONE;
        }
        return what == 0 ? lake.storiesThatCanBe() : lake.greatestNumberOf(what);
    }

    public int offer(int part, int least, int falsely, int cost) {
        if (!canListen(part, least, falsely) || !within(cost, 1, 100)) {
            return refuse(BAD_NUMBER);
        }
        return addTo(lake.offers, part, least, falsely, cost);
    }

    public int says(int offers) {
        if (!within(offers, 0, (1 << lake.offers.size()) - 1)) {
            return NONE;
        }
        scales.weigh(lake, NONE);
        return planner.saysOf(lake, scales, offers);
    }

    public int plan(int coins) {
        if (!within(coins, 0, 1000)) {
            return NONE;
        }
        scales.weigh(lake, NONE);
        return planner.bestFor(lake, scales, coins);
    }

    public int year(int year, int lookers, int seen) {
        if (!within(year, 0, YEARS - 1) || !within(lookers, 0, 1000) || !within(seen, 0, 1000)) {
            return refuse(BAD_NUMBER);
        }
        lake.years.set(year, Lake.LOOKERS, lookers);
        lake.years.set(year, Lake.SEEN, seen);
        return accept(0);
    }

    public int more(int base, int year, int what) {
        if (!isBase(base) || !within(year, 0, YEARS - 1) || !within(what, 0, 1)) {
            return NOTHING;
        }
        return what == 0 ? lake.nothingNew(base, year) : lake.moreSeen(base, year);
    }

    public int grew(int base) {
        if (!isBase(base)) {
            return NONE;
        }
        int best = 0;
        for (int year = 1; year < YEARS; year++) {
            if (lake.moreSeen(base, year) > lake.moreSeen(base, best)) {
                best = year;
            }
        }
        return best;
    }

    public int ripple(int wind, int low, int high) {
        if (!within(wind, 0, WINDS - 1) || !within(low, 1, 99) || !within(high, low, 99)) {
            return refuse(BAD_NUMBER);
        }
        lake.ripples.set(wind, Lake.LOW, low);
        lake.ripples.set(wind, Lake.HIGH, high);
        return accept(0);
    }

    public int picture(int day, int n, int part) {
        if (!within(day, 0, DAYS - 1) || !within(n, 0, 50) || !within(part, 0, 1)) {
            return NONE;
        }
        int wind = lake.days.get(day, Lake.WIND);
        return part == 0 ? n * lake.ripples.get(wind, Lake.LOW) : (n + 1) * lake.ripples.get(wind, Lake.HIGH);
    }

    public int run(int story, int days, int seed) {
        if (!within(days, 1, DAYS) || !within(seed, 0, MILLION)) {
            return refuse(BAD_NUMBER);
        }
        if (!lake.stories.holds(story)) {
            return refuse(NO_SUCH);
        }
        return accept(latestWorld.make(lake, story, days, seed));
    }

    public int world(int what, int watcher) {
        if (!within(what, 0, 2)) {
            return NONE;
        }
        return watcher == NONE ? latestWorld.seenByAll(what) : latestWorld.seenBy(watcher, what);
    }

    public int image(int k) {
        if (!within(k, 0, IMAGES - 1)) {
            return refuse(BAD_NUMBER);
        }
        images[k].copyFrom(lake);
        kept[k] = true;
        return accept(0);
    }

    public int back(int k) {
        if (!within(k, 0, IMAGES - 1)) {
            return refuse(BAD_NUMBER);
        }
        if (!kept[k]) {
            return refuse(NO_SUCH);
        }
        lake.copyFrom(images[k]);
        return accept(0);
    }

    public int count(int what) {
        switch (what) {
            case 0: return lake.boats.size();
            case 1: return lake.beasts.size();
            case 2: return lake.logs.size();
            case 3: return lake.watchers.size();
            case 4: return lake.poles.size();
            case 5: return lake.sights.size();
            case 6: return lake.law.size();
            case 7: return lake.stories.size();
            case 8: return lake.sweeps.size();
            case 9: return lake.offers.size();
            case 10: return tape.size();
            case 11: return refusals[0];
            case 12: return refusals[1];
            case 13: return refusals[2];
            case 14: return refusals[3];
            default: return NONE;
        }
    }

    public int status() {
        return latestRefusal;
    }

    private static boolean within(int number, int least, int greatest) {
        return number >= least && number <= greatest;
    }

    private int accept(int answer) {
        latestRefusal = 0;
        return answer;
    }

    private int refuse(int why) {
        latestRefusal = why;
        switch (why) {
            case BAD_NUMBER: refusals[0]++; break;
            case NO_SUCH: refusals[1]++; break;
            case NO_ROOM: refusals[2]++; break;
            default: refusals[3]++; break;
        }
        return why;
    }

    private int addTo(Table table, int a, int b, int c, int d) {
        if (table.isFull()) {
            return refuse(NO_ROOM);
        }
        return accept(table.add(a, b, c, d));
    }

    private boolean sightCameFrom(int from) {
        if (tape.size() - from < ROW_BYTES) {
            return false;
        }
        int day = tape.at(from);
        int minute = tape.at(from + 1) * 10;
        int place = tape.at(from + 2);
        int watcher = tape.at(from + 3);
        int humps = tape.at(from + 4);
        int length = tape.at(from + 5);
        int told = day + tape.at(from + 6);
        if (lake.whyNoSight(day, minute, place, watcher, humps, length, told) != 0) {
            return false;
        }
        lake.addSight(day, minute, place, watcher, humps, length, told);
        return true;
    }

    private static boolean canListen(int part, int least, int falsely) {
        return within(part, 0, 100) && within(least, 1, MOST_SIZE) && within(falsely, 0, 99);
    }

    private static boolean kinCanBe(int what, int value) {
        switch (what) {
            case Lake.BREED: return within(value, 0, 50);
            case Lake.FOOD: return within(value, 0, 10000);
            case Lake.EAT: return within(value, 1, 100);
            default: return false;
        }
    }

    private boolean isBase(int base) {
        return within(base, 0, YEARS - 1) && lake.years.get(base, Lake.LOOKERS) > 0;
    }

    private static int greatestDivisor(int a, int b) {
        int greater = a;
        int smaller = b;
        // Numbers of 31 bits need fewer than 64 steps.
        for (int step = 0; step < 64 && smaller != 0; step++) {
            int rest = greater % smaller;
            greater = smaller;
            smaller = rest;
        }
        return greater;
    }

    /** Rows of numbers, all of one width, as many as there is room for. */
    private static final class Table {
        private final int[] cells;
        private final int width;
        private final int room;
        private int rows = 0;

        Table(int room, int width) {
            this.room = Math.max(room, 1);
            this.width = Math.max(width, 1);
            this.cells = new int[this.room * this.width];
        }

        int size() {
            return rows;
        }

        boolean isFull() {
            return rows >= room;
        }

        boolean holds(int row) {
            return row >= 0 && row < rows;
        }

        int get(int row, int column) {
            return isCell(row, column) ? cells[row * width + column] : 0;
        }

        void set(int row, int column, int value) {
            if (isCell(row, column)) {
                cells[row * width + column] = value;
            }
        }

        int exchange(int row, int column, int value) {
            int before = get(row, column);
            set(row, column, value);
            return before;
        }

        /** A narrower table drops what stands behind its width. */
        int add(int a, int b, int c, int d) {
            if (isFull()) {
                return NONE;
            }
            int row = rows;
            rows++;
            set(row, 0, a);
            set(row, 1, b);
            set(row, 2, c);
            set(row, 3, d);
            return row;
        }

        void fill(int newRows, int value) {
            rows = Math.max(0, Math.min(newRows, room));
            Arrays.fill(cells, value);
        }

        void copyFrom(Table other) {
            System.arraycopy(other.cells, 0, cells, 0, Math.min(cells.length, other.cells.length));
            rows = Math.min(other.rows, room);
        }

        private boolean isCell(int row, int column) {
            return row >= 0 && row < rows && column >= 0 && column < width;
        }
    }

    /** All that an IMAGE keeps. */
    private static final class Lake {
        // The first column of boats, beasts, logs and sights.
        static final int DAY = 0;

        static final int WIND = 0;
        static final int BEND = 1;
        static final int NEWS = 2;

        static final int BOAT_WAY = 1;
        static final int BOAT_MINUTE = 2;
        static final int BOAT_SPEED = 3;

        static final int BEAST_PLACE = 1;
        static final int BEAST_FROM = 2;
        static final int BEAST_TO = 3;

        static final int LOG_PLACE = 1;

        static final int CARE = 0;

        static final int POLE_WATCHER = 0;
        static final int POLE_HEIGHT = 1;
        static final int POLE_DRAWN = 2;

        static final int MINUTE = 1;
        static final int PLACE = 2;
        static final int WATCHER = 3;
        static final int HUMPS = 4;
        static final int LENGTH = 5;
        static final int TOLD = 6;

        static final int WEIGHT = 0;
        static final int NUMBER = 1;
        static final int SIZE = 2;

        // The columns of sweeps and of offers.
        static final int PART = 0;
        static final int LEAST = 1;
        static final int FALSELY = 2;
        static final int HEARD = 3;
        static final int COST = 3;

        static final int LOOKERS = 0;
        static final int SEEN = 1;

        static final int LOW = 0;
        static final int HIGH = 1;

        static final int BREED = 0;
        static final int FOOD = 1;
        static final int EAT = 2;

        final Table days = new Table(DAYS, 3);
        final Table boats = new Table(12, 4);
        final Table beasts = new Table(12, 4);
        final Table logs = new Table(12, 2);
        final Table watchers = new Table(MOST_WATCHERS, 1);
        final Table poles = new Table(20, 3);
        final Table sights = new Table(40, 7);
        final Law law = new Law();
        final Table stories = new Table(MOST_STORIES, 3);
        final Table sweeps = new Table(12, 4);
        final Table offers = new Table(MOST_OFFERS, 4);
        final Table years = new Table(YEARS, 2);
        final Table ripples = new Table(WINDS, 2);
        final Table kin = new Table(1, 3);

        Lake() {
            days.fill(DAYS, 0);
            years.fill(YEARS, 0);
            ripples.fill(WINDS, 1);
            kin.fill(1, 0);
            kin.set(0, BREED, 2);
            kin.set(0, FOOD, 100);
            kin.set(0, EAT, 1);
        }

        void copyFrom(Lake other) {
            days.copyFrom(other.days);
            boats.copyFrom(other.boats);
            beasts.copyFrom(other.beasts);
            logs.copyFrom(other.logs);
            watchers.copyFrom(other.watchers);
            poles.copyFrom(other.poles);
            sights.copyFrom(other.sights);
            law.copyFrom(other.law);
            stories.copyFrom(other.stories);
            sweeps.copyFrom(other.sweeps);
            offers.copyFrom(other.offers);
            years.copyFrom(other.years);
            ripples.copyFrom(other.ripples);
            kin.copyFrom(other.kin);
        }

        /** What such a SIGHT would be REFUSED by; 0 if it would not. */
        int whyNoSight(int day, int minute, int place, int watcher, int humps, int length, int told) {
            if (!within(day, 0, DAYS - 1) || !within(minute, 0, MINUTES - 1) || !within(place, 0, PLACES - 1)
                    || !within(humps, 0, 9) || !within(length, 1, 200) || !within(told, day, DAYS - 1)) {
                return BAD_NUMBER;
            }
            if (!watchers.holds(watcher)) {
                return NO_SUCH;
            }
            return sights.isFull() ? NO_ROOM : 0;
        }

        int addSight(int day, int minute, int place, int watcher, int humps, int length, int told) {
            int sight = sights.add(day, minute, place, watcher);
            sights.set(sight, HUMPS, humps);
            sights.set(sight, LENGTH, length);
            sights.set(sight, TOLD, told);
            return sight;
        }

        int goneAtSight(int sight) {
            int minute = sights.get(sight, MINUTE);
            int latest = NONE;
            for (int boat = 0; boat < boats.size(); boat++) {
                if (boats.get(boat, DAY) == sights.get(sight, DAY)) {
                    int passed = minuteOfPassing(boat, sights.get(sight, PLACE));
                    if (passed <= minute) {
                        latest = Math.max(latest, passed);
                    }
                }
            }
            return latest == NONE ? 0 : minute - latest;
        }

        private int minuteOfPassing(int boat, int place) {
            int steps = boats.get(boat, BOAT_WAY) == 0 ? place : PLACES - 1 - place;
            return boats.get(boat, BOAT_MINUTE) + steps * boats.get(boat, BOAT_SPEED);
        }

        boolean hasBoatOn(int day) {
            for (int boat = 0; boat < boats.size(); boat++) {
                if (boats.get(boat, DAY) == day) {
                    return true;
                }
            }
            return false;
        }

        int causesOf(int sight) {
            int causes = 1 << MADE;
            if (within(goneAtSight(sight), 1, 60)) {
                causes |= 1 << WAKE;
            }
            if (hasBeastAt(sight)) {
                causes |= 1 << BEAST;
            }
            if (hasLogAt(sight)) {
                causes |= 1 << LOG;
            }
            if (days.get(sights.get(sight, DAY), BEND) > 0) {
                causes |= 1 << BENT;
            }
            return causes;
        }

        private boolean hasBeastAt(int sight) {
            for (int beast = 0; beast < beasts.size(); beast++) {
                boolean sameDay = beasts.get(beast, DAY) == sights.get(sight, DAY);
                int apart = Math.abs(beasts.get(beast, BEAST_PLACE) - sights.get(sight, PLACE));
                int from = beasts.get(beast, BEAST_FROM);
                int to = beasts.get(beast, BEAST_TO);
                if (sameDay && apart <= 1 && within(sights.get(sight, MINUTE), from, to)) {
                    return true;
                }
            }
            return false;
        }

        private boolean hasLogAt(int sight) {
            for (int log = 0; log < logs.size(); log++) {
                if (logs.get(log, DAY) == sights.get(sight, DAY)
                        && logs.get(log, LOG_PLACE) == sights.get(sight, PLACE)) {
                    return true;
                }
            }
            return false;
        }

        /** The least (part 0) or the greatest length (part 1) by the poles that tell of it. */
        int spanOf(int sight, int part, int hundredths) {
            int watcher = sights.get(sight, WATCHER);
            int length = sights.get(sight, LENGTH);
            boolean ownOnly = hasPole(watcher);
            int best = NONE;
            for (int pole = 0; pole < poles.size(); pole++) {
                if (!ownOnly || poles.get(pole, POLE_WATCHER) == watcher) {
                    int height = poles.get(pole, POLE_HEIGHT);
                    int large = largeBy(length, height, hundredths, poles.get(pole, POLE_DRAWN));
                    if (best == NONE || (part == 0 ? large < best : large > best)) {
                        best = large;
                    }
                }
            }
            return best == NONE ? largeBy(length, 1, hundredths, 1) : best;
        }

        private boolean hasPole(int watcher) {
            for (int pole = 0; pole < poles.size(); pole++) {
                if (poles.get(pole, POLE_WATCHER) == watcher) {
                    return true;
                }
            }
            return false;
        }

        private static int largeBy(int length, int height, int hundredths, int drawn) {
            int divisor = hundredths * drawn;
            return divisor == 0 ? 0 : length * 100 * height / divisor;
        }

        /** How many beasts of a STORY something can hear that hears none smaller than this. */
        int heardOf(int story, int least) {
            return stories.get(story, SIZE) >= least ? stories.get(story, NUMBER) : 0;
        }

        int storiesThatCanBe() {
            int bits = 0;
            for (int story = 0; story < stories.size(); story++) {
                if (canBe(stories.get(story, NUMBER), stories.get(story, SIZE))) {
                    bits |= 1 << story;
                }
            }
            return bits;
        }

        private boolean canBe(int number, int size) {
            boolean canBreed = number >= kin.get(0, BREED);
            boolean canEat = number * size * kin.get(0, EAT) <= kin.get(0, FOOD);
            return number == 0 || canBreed && canEat;
        }

        int greatestNumberOf(int size) {
            int eaten = size * kin.get(0, EAT);
            return eaten == 0 ? NONE : kin.get(0, FOOD) / eaten;
        }

        int nothingNew(int base, int year) {
            int lookersThen = years.get(base, LOOKERS);
            return lookersThen == 0 ? 0 : years.get(year, LOOKERS) * years.get(base, SEEN) / lookersThen;
        }

        int moreSeen(int base, int year) {
            return years.get(year, SEEN) - nothingNew(base, year);
        }
    }

    /** The bytes that were fed, each 0 .. 255. */
    private static final class Tape {
        private final int[] bytes = new int[MOST_BYTES];
        private int length = 0;

        int size() {
            return length;
        }

        /** Behind the end stands no byte: NONE. */
        int at(int place) {
            return place >= 0 && place < length && place < bytes.length ? bytes[place] : NONE;
        }

        boolean hasRoomForFiveNumbers() {
            return length + 20 <= MOST_BYTES;
        }

        void addNumber(int number) {
            for (int shift = 24; shift >= 0; shift -= 8) {
                if (length < bytes.length) {
                    bytes[length] = (number >> shift) & 255;
                    length++;
                }
            }
        }

        void cutTo(int newLength) {
            length = Math.max(0, Math.min(newLength, length));
        }
    }

    /**
     * A law as steps of a stack machine: of each clause the steps of its sum, then those of its test.
     * Skips go forward only, so that a run over the steps always ends.
     */
    private static final class Law {
        static final int MOST_CLAUSES = 12;

        static final int PUSH_NUMBER = 0;
        static final int PUSH_WORD = 1;
        static final int ADD = 2;
        static final int SUBTRACT = 3;
        static final int MULTIPLY = 4;
        static final int DIVIDE = 5;
        static final int LESS = 6;
        static final int GREATER = 7;
        static final int EQUAL = 8;
        static final int NOT = 9;
        static final int SKIP_IF_SO = 10;
        static final int SKIP_IF_NOT_SO = 11;

        // No token makes more than one step, so there are no more of them than bytes on a tape.
        private final int[] kinds = new int[MOST_BYTES];
        private final int[] values = new int[MOST_BYTES];
        private int steps = 0;

        // Of each clause: its head, where its sum begins, where its test begins, where it ends.
        private final Table clauses = new Table(MOST_CLAUSES, 4);

        int size() {
            return clauses.size();
        }

        int steps() {
            return steps;
        }

        int headOf(int clause) {
            return clauses.get(clause, 0);
        }

        int sumOf(int clause) {
            return clauses.get(clause, 1);
        }

        int testOf(int clause) {
            return clauses.get(clause, 2);
        }

        int endOf(int clause) {
            return clauses.get(clause, 3);
        }

        int kindOf(int step) {
            return step >= 0 && step < kinds.length ? kinds[step] : PUSH_NUMBER;
        }

        int valueOf(int step) {
            return step >= 0 && step < values.length ? values[step] : 0;
        }

        void clear() {
            steps = 0;
            clauses.fill(0, 0);
        }

        void addClause(int head, int sumFrom, int testFrom) {
            clauses.add(head, sumFrom, testFrom, steps);
        }

        int addStep(int kind, int value) {
            if (steps < kinds.length) {
                kinds[steps] = kind;
                values[steps] = value;
                steps++;
            }
            return steps - 1;
        }

        void letSkipEndHere(int step) {
            if (step >= 0 && step < values.length) {
                values[step] = steps;
            }
        }

        void copyFrom(Law other) {
            System.arraycopy(other.kinds, 0, kinds, 0, MOST_BYTES);
            System.arraycopy(other.values, 0, values, 0, MOST_BYTES);
            steps = other.steps;
            clauses.copyFrom(other.clauses);
        }
    }

    /** A TEXT cut into TOKENS; behind them stands its END. */
    private static final class Tokens {
        static final int END = 0;
        static final int WORD = 1;
        static final int NUMBER = 2;
        static final int SIGN = 3;

        // Heads in the order of the CAUSES, GREW behind them; then what an Asker knows, in its order; then the rest.
        private static final String WORDS =
                "wake beast log bent made grow humps length wind bend news gone place minute late if or and not";
        static final int LAST_HEAD = 5;
        static final int FIRST_PART_WORD = 6;
        static final int LAST_PART_WORD = 14;
        static final int IF = 15;
        static final int OR = 16;
        static final int AND = 17;
        static final int NOT = 18;

        static final int MOST_VALUE = 100000;

        private final int[] kinds = new int[MOST_BYTES + 1];
        private final int[] values = new int[MOST_BYTES + 1];
        private final int[] places = new int[MOST_BYTES + 1];
        private int tokens = 0;

        void cut(Tape tape) {
            tokens = 0;
            int at = 0;
            for (int n = 0; n < MOST_BYTES && at < tape.size(); n++) {
                int next = endOfToken(tape, at);
                if (tape.at(at) != ' ') {
                    addToken(tape, at, next);
                }
                at = next;
            }
            addToken(tape, at, at);
        }

        boolean isAt(int token, int kind, int value) {
            boolean isThere = token >= 0 && token < tokens && token < kinds.length;
            return isThere && kinds[token] == kind && values[token] == value;
        }

        /** Behind the last token all is END. */
        int kindOf(int token) {
            return token >= 0 && token < tokens && token < kinds.length ? kinds[token] : END;
        }

        /** A word's place in the list of words (NONE, if it is not there), a number itself, a sign's byte. */
        int valueOf(int token) {
            return token >= 0 && token < tokens && token < values.length ? values[token] : NONE;
        }

        int placeOf(int token) {
            return token >= 0 && token < tokens && token < places.length ? places[token] : NONE;
        }

        private void addToken(Tape tape, int from, int to) {
            if (tokens < kinds.length) {
                int kind = kindOfByte(tape.at(from));
                kinds[tokens] = kind;
                places[tokens] = from;
                values[tokens] = kind == WORD ? wordAt(tape, from, to)
                        : kind == NUMBER ? numberAt(tape, from, to) : tape.at(from);
                tokens++;
            }
        }

        private static int endOfToken(Tape tape, int from) {
            int kind = kindOfByte(tape.at(from));
            int to = from + 1;
            while (kind != SIGN && to < tape.size() && kindOfByte(tape.at(to)) == kind) {
                to++;
            }
            return to;
        }

        private static int kindOfByte(int sign) {
            if (sign == NONE) {
                return END;
            }
            if (within(sign, 'a', 'z')) {
                return WORD;
            }
            return within(sign, '0', '9') ? NUMBER : SIGN;
        }

        /** One above MOST_VALUE for all that are above it, lest a long row of digits overflow. */
        private static int numberAt(Tape tape, int from, int to) {
            int number = 0;
            for (int at = from; at < to; at++) {
                number = Math.min(number * 10 + tape.at(at) - '0', MOST_VALUE + 1);
            }
            return number;
        }

        private static int wordAt(Tape tape, int from, int to) {
            int place = 0;
            int begin = 0;
            for (int end = 0; end <= WORDS.length(); end++) {
                if (end == WORDS.length() || WORDS.charAt(end) == ' ') {
                    if (end - begin == to - from && isAlike(tape, from, begin, end)) {
                        return place;
                    }
                    place++;
                    begin = end + 1;
                }
            }
            return NONE;
        }

        private static boolean isAlike(Tape tape, int from, int begin, int end) {
            for (int at = begin; at < end && at < WORDS.length(); at++) {
                if (WORDS.charAt(at) != tape.at(from + at - begin)) {
                    return false;
                }
            }
            return true;
        }
    }

    /** Reads a TEXT into a Law. After a FAULT no token is taken any more, so that all that is open ends at once. */
    private static final class LawReader {
        private static final int MOST_PARTS = 50;
        private static final int MOST_BRACKETS = 8;

        private final Tokens tokens = new Tokens();
        private final Law law = new Law();
        private int at = 0;
        private int parts = 0;
        private int faultAt = NONE;

        void read(Tape tape) {
            tokens.cut(tape);
            law.clear();
            at = 0;
            parts = 0;
            faultAt = NONE;
            clause();
            for (int n = 1; n < Law.MOST_CLAUSES && take(Tokens.SIGN, ';'); n++) {
                clause();
            }
            if (tokens.kindOf(at) != Tokens.END) {
                // Behind the last clause that there may be, it is what comes behind the sign that can't go on.
                take(Tokens.SIGN, ';');
                fail();
            }
        }

        /** NONE, if the latest text was a LAW. */
        int faultPlace() {
            return faultAt;
        }

        /** What the latest text said; it is a LAW only without a FAULT. */
        Law draft() {
            return law;
        }

        private void clause() {
            int head = tokens.valueOf(at);
            if (tokens.kindOf(at) != Tokens.WORD || !within(head, 0, Tokens.LAST_HEAD)) {
                fail();
                return;
            }
            at++;
            int sumFrom = law.steps();
            sum(0);
            int testFrom = law.steps();
            if (take(Tokens.WORD, Tokens.IF)) {
                test(0);
            }
            law.addClause(head, sumFrom, testFrom);
        }

        private void test(int depth) {
            both(depth);
            for (int n = 0; n < MOST_BYTES && take(Tokens.WORD, Tokens.OR); n++) {
                int skip = law.addStep(Law.SKIP_IF_SO, 0);
                both(depth);
                law.letSkipEndHere(skip);
            }
        }

        private void both(int depth) {
            plain(depth);
            for (int n = 0; n < MOST_BYTES && take(Tokens.WORD, Tokens.AND); n++) {
                int skip = law.addStep(Law.SKIP_IF_NOT_SO, 0);
                plain(depth);
                law.letSkipEndHere(skip);
            }
        }

        /** Counts the "not"s ahead instead of calling itself: a tape has room for many. */
        private void plain(int depth) {
            boolean turned = false;
            for (int n = 0; n < MOST_BYTES && take(Tokens.WORD, Tokens.NOT); n++) {
                turned = !turned;
            }
            if (tokens.isAt(at, Tokens.SIGN, '(')) {
                testInBrackets(depth + 1);
            } else {
                comparison(depth);
            }
            if (turned) {
                law.addStep(Law.NOT, 0);
            }
        }

        private void testInBrackets(int depth) {
            if (depth > MOST_BRACKETS) {
                fail();
                return;
            }
            take(Tokens.SIGN, '(');
            test(depth);
            if (!take(Tokens.SIGN, ')')) {
                fail();
            }
        }

        private void comparison(int depth) {
            sum(depth);
            int kind = take(Tokens.SIGN, '<') ? Law.LESS
                    : take(Tokens.SIGN, '>') ? Law.GREATER
                    : take(Tokens.SIGN, '=') ? Law.EQUAL : NONE;
            if (kind == NONE) {
                fail();
                return;
            }
            sum(depth);
            law.addStep(kind, 0);
        }

        private void sum(int depth) {
            term(depth);
            for (int n = 0; n < MOST_BYTES; n++) {
                int kind = take(Tokens.SIGN, '+') ? Law.ADD : take(Tokens.SIGN, '-') ? Law.SUBTRACT : NONE;
                if (kind == NONE) {
                    return;
                }
                term(depth);
                law.addStep(kind, 0);
            }
        }

        private void term(int depth) {
            part(depth);
            for (int n = 0; n < MOST_BYTES; n++) {
                int kind = take(Tokens.SIGN, '*') ? Law.MULTIPLY : take(Tokens.SIGN, '/') ? Law.DIVIDE : NONE;
                if (kind == NONE) {
                    return;
                }
                part(depth);
                law.addStep(kind, 0);
            }
        }

        private void part(int depth) {
            int value = tokens.valueOf(at);
            int kind = tokens.kindOf(at);
            if (tokens.isAt(at, Tokens.SIGN, '[')) {
                sumInBrackets(depth + 1);
            } else if (kind == Tokens.NUMBER && value <= Tokens.MOST_VALUE) {
                countedPart(Law.PUSH_NUMBER, value);
            } else if (kind == Tokens.WORD && within(value, Tokens.FIRST_PART_WORD, Tokens.LAST_PART_WORD)) {
                countedPart(Law.PUSH_WORD, value - Tokens.FIRST_PART_WORD);
            } else {
                fail();
            }
        }

        private void sumInBrackets(int depth) {
            if (depth > MOST_BRACKETS) {
                fail();
                return;
            }
            take(Tokens.SIGN, '[');
            sum(depth);
            if (!take(Tokens.SIGN, ']')) {
                fail();
            }
        }

        private void countedPart(int kind, int value) {
            if (parts >= MOST_PARTS) {
                fail();
                return;
            }
            parts++;
            law.addStep(kind, value);
            at++;
        }

        private void fail() {
            if (faultAt == NONE) {
                faultAt = tokens.placeOf(at);
            }
        }

        private boolean take(int kind, int value) {
            boolean taken = faultAt == NONE && tokens.isAt(at, kind, value);
            if (taken) {
                at++;
            }
            return taken;
        }
    }

    /** Asks the LAW of a SIGHT. */
    private static final class Asker {
        private static final int MOST = 1000000000;
        private static final int MOST_WEIGHT = 1000;
        private static final int GROW = CAUSES;

        // A part pushes one number and there are 50 parts at most, so the stack is never full.
        private final int[] stack = new int[64];
        private int height = 0;
        private boolean broken = false;
        private final int[] words = new int[9];
        private final int[] tells = new int[CAUSES + 1];
        private int there = 0;

        void ask(Lake lake, int sight) {
            there = lake.causesOf(sight);
            setWords(lake, sight);
            Arrays.fill(tells, 0);
            tells[GROW] = 100;
            for (int clause = 0; clause < lake.law.size(); clause++) {
                hear(lake.law, clause);
            }
        }

        int weightOf(int cause) {
            boolean isThere = cause >= 0 && cause < CAUSES && ((there >> cause) & 1) == 1;
            return isThere ? tells[cause] : 0;
        }

        int weightOfAll() {
            int all = 0;
            for (int cause = 0; cause < CAUSES; cause++) {
                all += weightOf(cause);
            }
            return all;
        }

        /** NONE for an UNKNOWN SIGHT. */
        int likeliestCause() {
            int best = NONE;
            int bestWeight = 0;
            for (int cause = 0; cause < CAUSES; cause++) {
                if (weightOf(cause) > bestWeight) {
                    best = cause;
                    bestWeight = weightOf(cause);
                }
            }
            return best;
        }

        int hundredths() {
            return tells[GROW];
        }

        private void setWords(Lake lake, int sight) {
            int day = lake.sights.get(sight, Lake.DAY);
            words[0] = lake.sights.get(sight, Lake.HUMPS);
            words[1] = lake.sights.get(sight, Lake.LENGTH);
            words[2] = lake.days.get(day, Lake.WIND);
            words[3] = lake.days.get(day, Lake.BEND);
            words[4] = lake.days.get(day, Lake.NEWS);
            words[5] = lake.goneAtSight(sight);
            words[6] = lake.sights.get(sight, Lake.PLACE);
            words[7] = lake.sights.get(sight, Lake.MINUTE);
            words[8] = lake.sights.get(sight, Lake.TOLD) - day;
        }

        private void hear(Law law, int clause) {
            int head = law.headOf(clause);
            boolean hasTest = law.testOf(clause) < law.endOf(clause);
            if (head < 0 || head > GROW) {
                return;
            }
            if (hasTest && (work(law, law.testOf(clause), law.endOf(clause)) == 0 || broken)) {
                return;
            }
            int told = work(law, law.sumOf(clause), law.testOf(clause));
            if (!broken) {
                int least = head == GROW ? 1 : 0;
                tells[head] = Math.max(least, Math.min(told, MOST_WEIGHT));
            }
        }

        /** What the steps leave on the stack; it means nothing when they end broken. */
        private int work(Law law, int from, int to) {
            height = 0;
            broken = false;
            for (int step = from; step < to && !broken; step++) {
                int value = law.valueOf(step);
                int kind = law.kindOf(step);
                switch (kind) {
                    case Law.PUSH_NUMBER: push(value); break;
                    case Law.PUSH_WORD: push(wordAt(value)); break;
                    case Law.NOT: push(pop() == 0 ? 1 : 0); break;
                    case Law.SKIP_IF_SO: step = afterSkip(top() != 0, step, value); break;
                    case Law.SKIP_IF_NOT_SO: step = afterSkip(top() == 0, step, value); break;
                    default: join(kind); break;
                }
            }
            return pop();
        }

        /** The last step that is done with: a skip keeps what it saw as the answer, else that is dropped. */
        private int afterSkip(boolean skips, int step, int next) {
            if (skips) {
                return Math.max(step, next - 1);
            }
            pop();
            return step;
        }

        private int wordAt(int word) {
            return word >= 0 && word < words.length ? words[word] : 0;
        }

        private void push(int number) {
            if (height >= 0 && height < stack.length) {
                stack[height] = number;
                height++;
            } else {
                broken = true;
            }
        }

        private int top() {
            return height > 0 && height <= stack.length ? stack[height - 1] : 0;
        }

        private int pop() {
            int number = top();
            height = Math.max(0, height - 1);
            return number;
        }

        private void join(int kind) {
            long right = pop();
            long left = pop();
            switch (kind) {
                case Law.ADD: keep(left + right); break;
                case Law.SUBTRACT: keep(left - right); break;
                case Law.MULTIPLY: keep(left * right); break;
                case Law.DIVIDE: divide(left, right); break;
                case Law.LESS: push(left < right ? 1 : 0); break;
                case Law.GREATER: push(left > right ? 1 : 0); break;
                default: push(left == right ? 1 : 0); break;
            }
        }

        private void divide(long left, long right) {
            if (right == 0) {
                broken = true;
            } else {
                keep(left / right);
            }
        }

        private void keep(long number) {
            if (number > MOST || number < -MOST) {
                broken = true;
            } else {
                push((int) number);
            }
        }
    }

    /** A natural number: limbs of nine digits, the lowest first. */
    private static final class Natural {
        // A STORY COUNTS at most 100 times 100 to the 252nd; six such, a million times: 513 digits, so 57 limbs.
        private static final int LIMBS = 64;
        private static final long BASE = 1000000000L;

        private final long[] limbs = new long[LIMBS];
        // From here on up all limbs are 0.
        private int used = 0;

        /** A number from 0 on that is below BASE. */
        void become(int number) {
            Arrays.fill(limbs, 0L);
            limbs[0] = number;
            used = 1;
        }

        void become(Natural other) {
            System.arraycopy(other.limbs, 0, limbs, 0, LIMBS);
            used = other.used;
        }

        boolean isZero() {
            for (int limb = 0; limb < used && limb < LIMBS; limb++) {
                if (limbs[limb] != 0) {
                    return false;
                }
            }
            return true;
        }

        /** Times a factor that is not above BASE. */
        void multiply(long factor) {
            long carried = 0;
            for (int limb = 0; limb < LIMBS && (limb < used || carried > 0); limb++) {
                long product = limbs[limb] * factor + carried;
                limbs[limb] = product % BASE;
                carried = product / BASE;
                used = Math.max(used, limb + 1);
            }
        }

        /** Times a number up to 100, so many times; by fours, as 100 to the 4th is below BASE. */
        void multiplyOften(int factor, int times) {
            long fourth = (long) factor * factor * factor * factor;
            for (int left = times; left > 0; left -= 4) {
                if (left >= 4) {
                    multiply(fourth);
                } else {
                    multiply(left == 3 ? (long) factor * factor * factor : left == 2 ? factor * factor : factor);
                }
            }
        }

        void increaseBy(Natural other) {
            long carried = 0;
            used = Math.max(used, other.used);
            for (int limb = 0; limb < LIMBS && (limb < used || carried > 0); limb++) {
                long sum = limbs[limb] + other.limbs[limb] + carried;
                limbs[limb] = sum % BASE;
                carried = sum / BASE;
                used = Math.max(used, limb + 1);
            }
        }

        /** Less a number that is not greater. */
        void decreaseBy(Natural other) {
            long borrowed = 0;
            for (int limb = 0; limb < LIMBS && limb < used; limb++) {
                long rest = limbs[limb] - other.limbs[limb] - borrowed;
                borrowed = rest < 0 ? 1 : 0;
                limbs[limb] = rest + borrowed * BASE;
            }
        }

        boolean isAbove(Natural other) {
            for (int limb = Math.min(Math.max(used, other.used), LIMBS) - 1; limb >= 0; limb--) {
                if (limbs[limb] != other.limbs[limb]) {
                    return limbs[limb] > other.limbs[limb];
                }
            }
            return false;
        }
    }

    /** Weighs all STORIES, with all SWEEPS or without one of them. */
    private static final class Scales {
        // Chances are counted in parts of 100 to the 21st, for every STORY and SWEEP: these cancel out.
        private static final int HUNDREDS = MOST_NUMBER + 1;

        private final Natural[] counts = new Natural[MOST_STORIES];
        private final Natural total = new Natural();
        private final Natural silent = new Natural();
        private final Natural aim = new Natural();
        private final Natural trial = new Natural();

        Scales() {
            for (int story = 0; story < MOST_STORIES; story++) {
                counts[story] = new Natural();
            }
        }

        void weigh(Lake lake, int sweepLeftOut) {
            total.become(0);
            for (int story = 0; story < MOST_STORIES && story < lake.stories.size(); story++) {
                Natural count = counts[story];
                count.become(lake.stories.get(story, Lake.WEIGHT));
                for (int sweep = 0; sweep < lake.sweeps.size(); sweep++) {
                    if (sweep != sweepLeftOut) {
                        weighSweep(lake, story, sweep, count);
                    }
                }
                total.increaseBy(count);
            }
        }

        private void weighSweep(Lake lake, int story, int sweep, Natural count) {
            int times = lake.heardOf(story, lake.sweeps.get(sweep, Lake.LEAST));
            silent.become(count);
            silent.multiplyOften(100 - lake.sweeps.get(sweep, Lake.PART), times);
            silent.multiplyOften(100, MOST_NUMBER - times);
            silent.multiply(100 - lake.sweeps.get(sweep, Lake.FALSELY));
            if (lake.sweeps.get(sweep, Lake.HEARD) == 0) {
                count.become(silent);
            } else {
                count.multiplyOften(100, HUNDREDS);
                count.decreaseBy(silent);
            }
        }

        /** In millionths, by the latest weighing: the greatest share of all that is not above the story's. */
        int oddsOf(int story) {
            if (story < 0 || story >= MOST_STORIES || total.isZero()) {
                return 0;
            }
            aim.become(counts[story]);
            aim.multiply(MILLION);
            int low = 0;
            int high = MILLION;
            // A million is halved away in 20 steps.
            for (int step = 0; step < 32 && low < high; step++) {
                int middle = (low + high + 1) / 2;
                trial.become(total);
                trial.multiply(middle);
                if (trial.isAbove(aim)) {
                    high = middle - 1;
                } else {
                    low = middle;
                }
            }
            return low;
        }
    }

    /** What sets of OFFERS say, by STORIES that have been weighed. */
    private static final class Planner {
        private static final int SETS = 1 << MOST_OFFERS;

        // By set: how many of a million hear nothing by one story, what it says, what it costs.
        private final int[] silent = new int[SETS];
        private final int[] said = new int[SETS];
        private final int[] costs = new int[SETS];

        int saysOf(Lake lake, Scales scales, int set) {
            int sum = 0;
            for (int story = 0; story < lake.stories.size(); story++) {
                sum += share(scales.oddsOf(story), silentBy(lake, set, story));
            }
            return sum;
        }

        private static int silentBy(Lake lake, int set, int story) {
            int left = MILLION;
            for (int offer = 0; offer < lake.offers.size(); offer++) {
                if (((set >> offer) & 1) == 1) {
                    int times = lake.heardOf(story, lake.offers.get(offer, Lake.LEAST));
                    int missed = 100 - lake.offers.get(offer, Lake.PART);
                    left = silentAfter(left, times, missed, 100 - lake.offers.get(offer, Lake.FALSELY));
                }
            }
            return left;
        }

        int bestFor(Lake lake, Scales scales, int coins) {
            sayAll(lake, scales);
            costAll(lake);
            int best = 0;
            for (int set = 1; set < SETS && set < 1 << lake.offers.size(); set++) {
                boolean better = said[set] > said[best] || said[set] == said[best] && costs[set] < costs[best];
                if (costs[set] <= coins && better) {
                    best = set;
                }
            }
            return best;
        }

        /** A set is one without its last offer, and then that offer: so each is made from one made before. */
        private void sayAll(Lake lake, Scales scales) {
            Arrays.fill(said, 0);
            silent[0] = MILLION;
            for (int story = 0; story < lake.stories.size(); story++) {
                int odds = scales.oddsOf(story);
                for (int offer = 0; offer < lake.offers.size(); offer++) {
                    sayWith(lake, offer, story, odds);
                }
            }
        }

        private void sayWith(Lake lake, int offer, int story, int odds) {
            int bit = 1 << offer;
            int times = lake.heardOf(story, lake.offers.get(offer, Lake.LEAST));
            int missed = 100 - lake.offers.get(offer, Lake.PART);
            int quiet = 100 - lake.offers.get(offer, Lake.FALSELY);
            for (int rest = 0; rest < bit && rest + bit < SETS; rest++) {
                int left = silentAfter(silent[rest], times, missed, quiet);
                silent[rest + bit] = left;
                said[rest + bit] += share(odds, left);
            }
        }

        private void costAll(Lake lake) {
            costs[0] = 0;
            for (int offer = 0; offer < lake.offers.size(); offer++) {
                int bit = 1 << offer;
                for (int rest = 0; rest < bit && rest + bit < SETS; rest++) {
                    costs[rest + bit] = costs[rest] + lake.offers.get(offer, Lake.COST);
                }
            }
        }

        private static int silentAfter(int before, int times, int missed, int quiet) {
            int left = before;
            for (int n = 0; n < times && left > 0; n++) {
                left = left * missed / 100;
            }
            return left * quiet / 100;
        }

        private static int share(int odds, int left) {
            return (int) ((long) odds * (MILLION - left) / MILLION);
        }
    }

    /** The latest WORLD: what each of the watchers of then saw how often. */
    private static final class World {
        private static final int SAW_BEAST = 0;
        private static final int SAW_WAKE = 1;
        private static final int SAW_NOTHING = 2;
        private static final int MODULUS = 1000003;

        private final Table seen = new Table(MOST_WATCHERS, 3);
        private boolean made = false;
        private int s = 0;

        int make(Lake lake, int story, int days, int seed) {
            seen.fill(lake.watchers.size(), 0);
            made = true;
            s = seed;
            int looked = 0;
            for (int day = 0; day < days; day++) {
                for (int watcher = 0; watcher < lake.watchers.size(); watcher++) {
                    int care = lake.watchers.get(watcher, Lake.CARE);
                    if (draw(100) < care + lake.days.get(day, Lake.NEWS)) {
                        looked++;
                        int what = look(lake, story, day);
                        seen.set(watcher, what, seen.get(watcher, what) + 1);
                    }
                }
            }
            return looked;
        }

        int seenBy(int watcher, int what) {
            return seen.holds(watcher) ? seen.get(watcher, what) : NONE;
        }

        int seenByAll(int what) {
            int sum = 0;
            for (int watcher = 0; watcher < seen.size(); watcher++) {
                sum += seen.get(watcher, what);
            }
            return made ? sum : NONE;
        }

        private int look(Lake lake, int story, int day) {
            if (draw(1000) < lake.stories.get(story, Lake.NUMBER) * lake.stories.get(story, Lake.SIZE)) {
                return SAW_BEAST;
            }
            if (lake.hasBoatOn(day) && draw(10) > lake.days.get(day, Lake.WIND)) {
                return SAW_WAKE;
            }
            return SAW_NOTHING;
        }

        private int draw(int m) {
            s = (s * 1103 + 12345) % MODULUS;
            return m > 0 ? s % m : 0;
        }
    }
}
