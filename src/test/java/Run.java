import java.util.ArrayList;
import java.util.List;

/**
 * A run of calls on one object, each held against the answer that is due. What has changed the object is remembered:
 * so it can be made again on other objects, to see all that they tell without spending this one's calls.
 */
final class Run {
    static final int MOST_CALLS = 512;

    private final Check check;
    private final LakeWatch x = new LakeWatch();
    private final List<Call> changes = new ArrayList<>();
    private int calls = 0;
    private View latestView = null;

    Run(Check check, String... setup) {
        this.check = check;
        for (String call : setup) {
            ask(call);
            check.due("status() in a setup, after " + call, ask("status()"), 0);
        }
    }

    int ask(String text) {
        Call call = Call.of(text);
        if (call.isChanging()) {
            changes.add(call);
            latestView = null;
        }
        calls++;
        if (calls > MOST_CALLS) {
            throw new IllegalStateException("an object is used for " + MOST_CALLS + " calls at most");
        }
        return call.on(x);
    }

    Run due(String text, int want) {
        check.due(text + trail(), ask(text), want);
        return this;
    }

    /** Asks with each number from the least on in the place of the sign #. */
    Run dues(String text, int least, int... wants) {
        for (int i = 0; i < wants.length; i++) {
            due(text.replace("#", "" + (least + i)), wants[i]);
        }
        return this;
    }

    /** A REFUSED call: status() and count(11) to count(14) tell of it, and nothing else has changed. */
    Run refused(String text, int why) {
        View before = view();
        int[] refusals = refusals();
        due(text, why);
        due("status()", why);
        refusals[why == -1 ? 0 : why == -2 ? 1 : why == -5 ? 2 : 3]++;
        dueRefusals(text, refusals);
        before.same(check, "after " + text + " was refused", view(), null);
        changes.remove(changes.size() - 1);
        latestView = before;
        return this;
    }

    /** A call that answers that it can't, but is not REFUSED: nothing at all has changed, be status() 0 or not. */
    Run cannot(String text, int want) {
        View before = view();
        leavesRefusals(text, want);
        refuseSomething();
        leavesRefusals(text, want);
        List<Call> all = new ArrayList<>(changes);
        if (!Call.of(text).isChanging()) {
            all.add(Call.of(text));
        }
        before.same(check, "after " + text, View.after(all), null);
        return this;
    }

    /** A call that has nothing to do with what was REFUSED ahead of it. */
    Run leavesRefusals(String text, int want) {
        int status = ask("status()");
        int[] refusals = refusals();
        due(text, want);
        check.due("status() after " + text, ask("status()"), status);
        dueRefusals(text, refusals);
        return this;
    }

    /** So that status() is not 0. */
    Run refuseSomething() {
        due("image(2)", -1);
        changes.remove(changes.size() - 1);
        return this;
    }

    /** From an IMAGE that was kept now, through what changes, BACK: all that it keeps is as it is now. */
    Run goneBack(int k, String... between) {
        due("image(" + k + ")", 0);
        View before = view();
        for (String call : between) {
            ask(call);
        }
        due("back(" + k + ")", 0).due("status()", 0);
        before.same(check, "gone back behind " + String.join(" ", between), view(), null);
        return this;
    }

    /** A TEXT that is no LAW: what it is REFUSED by, and its FAULT's place; besides, the TAPE's bytes are gone. */
    Run fault(String text, int place) {
        View before = view();
        feed(text);
        int[] refusals = refusals();
        due("law()", -6);
        due("status()", -6);
        refusals[3]++;
        dueRefusals("law() of " + text, refusals);
        due("fault()", place);
        due("count(10)", 0);
        before.same(check, "after a FAULT in " + text, view(), "fault()");
        return this;
    }

    /** A TEXT that is a LAW of so many CLAUSES. */
    Run law(String text, int clauses) {
        feed(text);
        due("law()", clauses);
        due("status()", 0);
        due("fault()", -1);
        due("count(6)", clauses);
        return due("count(10)", 0);
    }

    /** Puts bytes on the TAPE, which has to be empty. */
    Run feed(int... bytes) {
        for (String call : Tapes.calls(bytes)) {
            ask(call);
        }
        return due("count(10)", bytes.length);
    }

    Run feed(String text) {
        return feed(text.chars().toArray());
    }

    /**
     * The least and the greatest number that can stand in the place of the sign # are taken, each on an object of its
     * own; those beside them, and those far off, are REFUSED by -1.
     */
    static void bounds(Check check, String call, int least, int greatest, String... setup) {
        for (int n : new int[] {least, greatest}) {
            new Run(check, setup).due(call.replace("#", "" + n), 0).due("status()", 0).dues("count(#)", 11, 0, 0, 0, 0);
        }
        Run run = new Run(check, setup);
        for (int n : new int[] {least - 1, greatest + 1, Integer.MIN_VALUE, Integer.MAX_VALUE}) {
            run.refused(call.replace("#", "" + n), -1);
        }
    }

    private View view() {
        if (latestView == null) {
            latestView = View.after(changes);
        }
        return latestView;
    }

    private int[] refusals() {
        return new int[] {ask("count(11)"), ask("count(12)"), ask("count(13)"), ask("count(14)")};
    }

    private void dueRefusals(String when, int[] want) {
        int[] got = refusals();
        for (int i = 0; i < got.length; i++) {
            check.due("count(" + (11 + i) + ") after " + when, got[i], want[i]);
        }
    }

    /** The calls ahead, so that a wrong answer can be found again. */
    private String trail() {
        StringBuilder trail = new StringBuilder(" behind");
        for (int i = Math.max(0, changes.size() - 6); i < changes.size(); i++) {
            trail.append(' ').append(changes.get(i).text);
        }
        return trail.toString();
    }
}
