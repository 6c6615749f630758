import java.nio.charset.StandardCharsets;

/** What the tests share: counting wrong answers, and writing a text onto the tape. */
final class Check {
    private int wrong;
    private int asked;

    void due(String call, long got, long want) {
        asked++;
        if (got != want) {
            wrong++;
            System.out.println(call + " answered " + got + ", due is " + want);
        }
    }

    void due(String call, boolean got, boolean want) {
        due(call, got ? 1L : 0L, want ? 1L : 0L);
    }

    void finish() {
        System.out.println(wrong == 0 ? asked + " answers are as due" : wrong + " of " + asked + " answers are wrong");
        if (wrong != 0 || asked == 0) {
            System.exit(1);
        }
    }

    /** A person and a post each in diocese 0 of worth 100, as often as asked for, none of them seated. */
    static PaperChancery house(int persons, int posts) {
        PaperChancery x = new PaperChancery();
        for (int i = 0; i < persons; i++) {
            x.person(0, 0, 0);
        }
        for (int i = 0; i < posts; i++) {
            x.post(0, 100);
        }
        return x;
    }

    /** Feeds a text behind what is on an empty tape, and cuts the tape at the text's end. */
    static void write(PaperChancery x, String text) {
        byte[] bytes = text.getBytes(StandardCharsets.ISO_8859_1);
        for (int at = 0; at < bytes.length; at += 20) {
            x.feed(four(bytes, at), four(bytes, at + 4), four(bytes, at + 8), four(bytes, at + 12), four(bytes, at + 16));
        }
        x.end(bytes.length);
    }

    static int reign(PaperChancery x, int time, String text) {
        write(x, text);
        return x.reign(time);
    }

    private static int four(byte[] bytes, int from) {
        int number = 0;
        for (int i = from; i < from + 4; i++) {
            number = number << 8 | (i < bytes.length ? bytes[i] & 255 : 255);
        }
        return number;
    }
}
