/** Promises 24 to 27: wish, content, rings, got. */
public final class RingsTest {
    private static final Check check = new Check();

    public static void main(String[] args) {
        wishes();
        contents();
        ringOfTwoAndThree();
        laterRounds();
        notThere();
        latestRings();
        asKnown();
        theGreatestRing();
        check.finish();
    }

    /** Person i seated in post i. */
    private static PaperChancery seated(int count) {
        PaperChancery x = Check.house(count, count);
        for (int i = 0; i < count; i++) {
            x.seat(i, i);
        }
        return x;
    }

    private static void got(PaperChancery x, String name, int... want) {
        for (int person = 0; person < want.length; person++) {
            check.due(name + ": got(" + person + ")", x.got(person), want[person]);
        }
    }

    private static void wishes() {
        PaperChancery x = Check.house(2, 5);
        check.due("wish(-1, 0)", x.wish(-1, 0), -1);
        check.due("wish(2, 0)", x.wish(2, 0), -1);
        check.due("wish(0, -1)", x.wish(0, -1), -1);
        check.due("wish(0, 5)", x.wish(0, 5), -1);
        check.due("wish(0, 4)", x.wish(0, 4), 1);
        check.due("wish(0, 4) again", x.wish(0, 4), -1);
        check.due("wish(0, 0)", x.wish(0, 0), 2);
        check.due("wish(1, 4)", x.wish(1, 4), 1);
        check.due("wish(0, 1)", x.wish(0, 1), 3);
        check.due("wish(0, 2)", x.wish(0, 2), -1);
    }

    private static void contents() {
        PaperChancery x = seated(2);
        check.due("content(-1)", x.content(-1), -1);
        check.due("content(2)", x.content(2), -1);
        check.due("content(0) of none", x.content(0), 0);
        x.wish(0, 1);
        x.wish(1, 0);
        check.due("rings()", x.rings(), 2);
        check.due("content(0)", x.content(0), 1);
        check.due("content(0) again", x.content(0), 0);
        check.due("rings() without", x.rings(), 0);
        check.due("wish(0, 1) anew", x.wish(0, 1), 1);
        check.due("rings() anew", x.rings(), 2);
    }

    private static void ringOfTwoAndThree() {
        PaperChancery x = seated(6);
        x.wish(0, 1);
        x.wish(1, 0);
        x.wish(2, 3);
        x.wish(3, 4);
        x.wish(4, 2);
        x.wish(5, 0);
        check.due("rings()", x.rings(), 5);
        got(x, "two rings", 1, 0, 3, 4, 2, 5, -1);
        check.due("holders stay", x.holder(0, 9), 0);
    }

    private static void laterRounds() {
        PaperChancery x = seated(4);
        x.wish(0, 0);
        x.wish(0, 1);
        x.wish(1, 0);
        x.wish(1, 2);
        x.wish(2, 0);
        x.wish(2, 1);
        x.wish(2, 3);
        x.wish(3, 1);
        check.due("rings()", x.rings(), 2);
        got(x, "later rounds", 0, 2, 1, 3);
    }

    private static void notThere() {
        PaperChancery x = Check.house(5, 6);
        x.seat(0, 0);
        x.seat(1, 1);
        x.seat(2, 2);
        x.seat(3, 2);
        x.seat(4, 3);
        x.wish(0, 5);
        x.wish(0, 2);
        x.wish(0, 1);
        x.wish(1, 2);
        x.wish(1, 0);
        x.wish(2, 0);
        x.wish(3, 1);
        x.wish(4, 0);
        check.due("rings()", x.rings(), 2);
        got(x, "who holds two is not there", 1, 0, -1, 4, -1);
    }

    private static void latestRings() {
        PaperChancery x = seated(2);
        x.wish(0, 1);
        x.wish(1, 0);
        got(x, "ahead of any", -1, -1);
        x.rings();
        x.death(0, 5);
        x.content(1);
        x.person(0, 0, 0);
        got(x, "of the latest", 1, 0, -1, -1);
        check.due("got(-1)", x.got(-1), -1);
        check.due("got(24)", x.got(24), -1);
        check.due("rings()", x.rings(), 0);
        got(x, "anew", -1, 1, -1);
    }

    private static void asKnown() {
        PaperChancery x = seated(3);
        x.wish(0, 1);
        x.wish(1, 0);
        x.swap(0, 2, 9999999);
        check.due("at the end", x.rings(), 0);
        got(x, "at the end", 2, 1, 0);
        x.as(0);
        check.due("as known at none", x.rings(), 2);
        got(x, "as known at none", 1, 0, 2);
    }

    private static void theGreatestRing() {
        PaperChancery x = seated(16);
        for (int i = 0; i < 16; i++) {
            x.wish(i, (i + 1) % 16);
        }
        check.due("rings()", x.rings(), 16);
        for (int i = 0; i < 16; i++) {
            check.due("got(" + i + ")", x.got(i), (i + 1) % 16);
        }
        PaperChancery y = seated(16);
        for (int i = 0; i < 16; i++) {
            y.wish(i, Math.max(0, i - 1));
        }
        check.due("one leaves a round", y.rings(), 0);
        check.due("got(15)", y.got(15), 15);
    }
}
