/** Counts answers that are not as due; every test makes one of these and ends with done(). */
final class Check {
    private final String name;
    private int asked = 0;
    private int wrong = 0;

    Check(String name) {
        this.name = name;
    }

    void due(String call, long got, long want) {
        asked++;
        if (got != want) {
            wrong++;
            System.out.println(name + ": " + call + " answered " + got + ", due is " + want);
        }
    }

    /** A refused call: what it answers, and what status() and count() tell of it. */
    void refused(String call, LakeWatch x, int[] before, int got, int want) {
        due(call, got, want);
        due("status() after " + call, x.status(), want);
        int place = want == -1 ? 0 : want == -2 ? 1 : want == -5 ? 2 : 3;
        for (int i = 0; i < 4; i++) {
            due("count(" + (11 + i) + ") after " + call, x.count(11 + i), before[i] + (i == place ? 1 : 0));
        }
    }

    static int[] refusals(LakeWatch x) {
        return new int[] {x.count(11), x.count(12), x.count(13), x.count(14)};
    }

    void done() {
        System.out.println(name + ": " + asked + " answers looked at, " + wrong + " not as due");
        if (wrong != 0 || asked == 0) {
            System.exit(1);
        }
    }
}
