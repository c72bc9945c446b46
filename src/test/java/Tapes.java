import java.util.ArrayList;
import java.util.List;

/** Puts texts and rows on an object's tape; the tape has to be empty. */
final class Tapes {
    private Tapes() {
    }

    /** The calls that put these bytes, and no more, on an empty tape. */
    static List<String> calls(int... bytes) {
        List<String> calls = new ArrayList<>();
        for (int from = 0; from < bytes.length; from += 20) {
            int[] numbers = new int[5];
            for (int i = 0; i < 20; i++) {
                int sign = from + i < bytes.length ? bytes[from + i] : 0;
                numbers[i / 4] = numbers[i / 4] << 8 | sign;
            }
            calls.add("feed(" + numbers[0] + ", " + numbers[1] + ", " + numbers[2] + ", " + numbers[3] + ", " + numbers[4] + ")");
        }
        calls.add("end(" + bytes.length + ")");
        return calls;
    }

    static List<String> calls(String text) {
        return calls(text.chars().toArray());
    }

    static void put(LakeWatch x, int... bytes) {
        for (String call : calls(bytes)) {
            Call.of(call).on(x);
        }
    }

    static void put(LakeWatch x, String text) {
        put(x, text.chars().toArray());
    }

    static int law(LakeWatch x, String text) {
        put(x, text);
        return x.law();
    }

    /** What a law of this one sum (and its test) tells of a sight: hundredths that it grew. */
    static int grewBy(LakeWatch x, int sight, String sumAndTest) {
        law(x, "grow " + sumAndTest);
        return x.of(sight, 8);
    }
}
