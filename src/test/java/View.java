import java.util.ArrayList;
import java.util.List;

/** What all calls tell of an object that some calls have made: each part of it on an object of its own. */
final class View {
    private static final List<List<Call>> PARTS = List.of(lake(), sights(), stories(), days(), tapeAsLaw(), tapeAsRow(),
        image(0), image(1), probes());

    private final List<Call> asked = new ArrayList<>();
    private final List<Integer> answers = new ArrayList<>();

    static View after(List<Call> changes) {
        View view = new View();
        for (List<Call> part : PARTS) {
            view.look(changes, part);
        }
        return view;
    }

    private void look(List<Call> changes, List<Call> part) {
        if (changes.size() + part.size() > Run.MOST_CALLS) {
            throw new IllegalStateException(changes.size() + " calls are too many to look at");
        }
        LakeWatch x = new LakeWatch();
        for (Call change : changes) {
            change.on(x);
        }
        for (Call call : part) {
            asked.add(call);
            answers.add(call.on(x));
        }
    }

    /** Holds it against another one; what a call may change beside is left out. */
    void same(Check check, String when, View other, String leftOut) {
        for (int i = 0; i < asked.size(); i++) {
            String text = asked.get(i).text;
            if (!text.equals(leftOut)) {
                check.due(text + ", " + when, other.answers.get(i), answers.get(i));
            }
        }
    }

    private static void ask(List<Call> part, String call) {
        part.add(Call.of(call));
    }

    /** Asks with each number from the least to the greatest in the place of the sign #. */
    private static void ask(List<Call> part, String call, int least, int greatest) {
        for (int n = least; n <= greatest; n++) {
            ask(part, call.replace("#", "" + n));
        }
    }

    private static List<Call> lake() {
        List<Call> part = new ArrayList<>();
        ask(part, "count(#)", 0, 10);
        ask(part, "cousins()");
        ask(part, "fault()");
        ask(part, "unknown(0, 0)");
        ask(part, "unknown(1, #)", 0, 3);
        ask(part, "most(#)", 0, 4);
        ask(part, "lot(#)", 0, 60);
        ask(part, "grew(#)", 0, 29);
        ask(part, "world(0, #)", -1, 11);
        ask(part, "world(1, #)", -1, 11);
        ask(part, "world(2, #)", -1, 11);
        ask(part, "picture(#, 3, 0)", 0, 59);
        return part;
    }

    private static List<Call> sights() {
        List<Call> part = new ArrayList<>();
        for (int sight : new int[] {0, 1, 2, 38, 39}) {
            ask(part, "of(" + sight + ", #)", 0, 8);
            ask(part, "there(" + sight + ")");
            ask(part, "span(" + sight + ", #)", 0, 1);
            ask(part, "odds(" + sight + ", #, 0)", 0, 4);
            ask(part, "odds(" + sight + ", #, 1)", 0, 4);
        }
        ask(part, "of(#, 1)", 0, 39);
        return part;
    }

    private static List<Call> stories() {
        List<Call> part = new ArrayList<>();
        ask(part, "likely(#)", 0, 5);
        ask(part, "moved(#, 0)", 0, 5);
        ask(part, "moved(#, 11)", 0, 5);
        for (int offer = 0; offer <= 10; offer++) {
            ask(part, "says(" + (1 << offer) + ")");
        }
        ask(part, "says(1023)");
        ask(part, "plan(1000)");
        for (int base : new int[] {0, 1, 29}) {
            ask(part, "more(" + base + ", #, 0)", 0, 29);
            ask(part, "more(" + base + ", #, 1)", 0, 29);
        }
        return part;
    }

    /** What a day or the kin was is told only when it is changed. */
    private static List<Call> days() {
        List<Call> part = new ArrayList<>();
        ask(part, "day(#, 0, 0)", 0, 59);
        ask(part, "day(#, 1, 0)", 0, 59);
        ask(part, "day(#, 2, 0)", 0, 59);
        ask(part, "kin(#, 1)", 0, 2);
        for (int wind = 0; wind <= 9; wind++) {
            ask(part, "day(0, 0, " + wind + ")");
            ask(part, "picture(0, 1, #)", 0, 1);
        }
        return part;
    }

    private static List<Call> tapeAsLaw() {
        List<Call> part = new ArrayList<>();
        ask(part, "law()");
        ask(part, "fault()");
        ask(part, "count(6)");
        ask(part, "of(0, 8)");
        return part;
    }

    private static List<Call> tapeAsRow() {
        List<Call> part = new ArrayList<>();
        ask(part, "row()");
        ask(part, "cousins()");
        ask(part, "count(5)");
        ask(part, "of(0, #)", 0, 6);
        return part;
    }

    private static List<Call> image(int k) {
        List<Call> part = new ArrayList<>();
        ask(part, "back(" + k + ")");
        ask(part, "count(#)", 0, 9);
        ask(part, "likely(0)");
        ask(part, "of(0, #)", 0, 8);
        return part;
    }

    /** More sights and a world, for boats, beasts, logs and watchers that no sight has met so far. */
    private static List<Call> probes() {
        List<Call> part = new ArrayList<>();
        ask(part, "watcher(0)");
        ask(part, "sight(0, 1439, #, 0, 0, 1, 0)", 0, 11);
        ask(part, "sight(59, 1439, #, 0, 0, 1, 59)", 12, 23);
        ask(part, "there(#)", 0, 39);
        ask(part, "of(#, 7)", 0, 39);
        ask(part, "span(#, 1)", 0, 39);
        ask(part, "story(1, 5, 30)");
        ask(part, "run(0, 60, 77)");
        ask(part, "world(0, #)", -1, 11);
        ask(part, "world(1, #)", -1, 11);
        return part;
    }
}
