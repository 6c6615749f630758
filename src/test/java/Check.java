import java.nio.charset.StandardCharsets;
import java.util.List;
import java.util.function.Supplier;
import java.util.function.ToLongFunction;

/** What the tests share: counting wrong answers, and writing a text onto the tape. */
final class Check {
    static final int LAST_TIME = 9999999;
    /** The first that can't be, on both sides, and those far outside. */
    static final int[] NO_TIMES = {-1, LAST_TIME + 1, Integer.MIN_VALUE, Integer.MAX_VALUE};

    private int wrong;
    private int asked;
    private String sentence = "";

    /** Tells which sentence of the document the next answers are about. */
    void sentence(String words) {
        sentence = words + ": ";
    }

    void due(String call, long got, long want) {
        asked++;
        if (got != want) {
            wrong++;
            System.out.println(sentence + call + " answered " + got + ", due is " + want);
        }
    }

    void due(String call, boolean got, boolean want) {
        due(call, got ? 1L : 0L, want ? 1L : 0L);
    }

    /** A call that is refused with the answer, and behind which the object answers as its untouched twin does. */
    void refused(String call, Supplier<PaperChancery> maker, ToLongFunction<PaperChancery> refusal, long answer) {
        PaperChancery touched = maker.get();
        due(call, refusal.applyAsLong(touched), answer);
        List<String> got = Probe.of(touched);
        List<String> want = Probe.of(maker.get());
        due(call + " does nothing: " + firstUnlike(got, want), got.equals(want), true);
    }

    private static String firstUnlike(List<String> got, List<String> want) {
        int at = 0;
        while (at < got.size() && at < want.size() && got.get(at).equals(want.get(at))) {
            at++;
        }
        return at < got.size() && at < want.size() ? got.get(at) + ", its twin " + want.get(at) : "all alike";
    }

    void finish() {
        System.out.println(wrong == 0 ? asked + " answers are as due" : wrong + " of " + asked + " answers are wrong");
        if (wrong != 0 || asked == 0) {
            System.exit(1);
        }
    }

    /** A person and a post each in diocese 0 of worth 100, as often as asked for, none of them seated. */
    static PaperChancery house(int persons, int posts) {
        PaperChancery x = new PaperChancery();
        for (int i = 0; i < persons; i++) {
            x.person(0, 0, 0);
        }
        for (int i = 0; i < posts; i++) {
            x.post(0, 100);
        }
        return x;
    }

    /** As many persons as posts, each seated in the post of the same number. */
    static PaperChancery seated(int count) {
        PaperChancery x = house(count, count);
        for (int i = 0; i < count; i++) {
            x.seat(i, i);
        }
        return x;
    }

    /** Feeds a text behind what is on an empty tape, and cuts the tape at the text's end. */
    static void write(PaperChancery x, String text) {
        byte[] bytes = text.getBytes(StandardCharsets.ISO_8859_1);
        for (int at = 0; at < bytes.length; at += 20) {
            x.feed(four(bytes, at), four(bytes, at + 4), four(bytes, at + 8), four(bytes, at + 12), four(bytes, at + 16));
        }
        x.end(bytes.length);
    }

    static int reign(PaperChancery x, int time, String text) {
        write(x, text);
        return x.reign(time);
    }

    private static int four(byte[] bytes, int from) {
        int number = 0;
        for (int i = from; i < from + 4; i++) {
            number = number << 8 | (i < bytes.length ? bytes[i] & 255 : 255);
        }
        return number;
    }
}
