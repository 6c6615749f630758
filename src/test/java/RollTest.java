/** Promises 4, 5, 6: person, post, seat. */
public final class RollTest {
    private static final Check check = new Check();

    public static void main(String[] args) {
        persons();
        posts();
        seats();
        seatsEndWithNews();
        check.finish();
    }

    private static void persons() {
        PaperChancery x = new PaperChancery();
        check.due("degree -1", x.person(-1, 0, 0), -1);
        check.due("degree 10", x.person(10, 0, 0), -1);
        check.due("rank -1", x.person(0, -1, 0), -1);
        check.due("rank 10", x.person(0, 10, 0), -1);
        check.due("diocese -1", x.person(0, 0, -1), -1);
        check.due("diocese 8", x.person(0, 0, 8), -1);
        check.due("no persons", x.all(0), 0);
        check.due("greatest", x.person(9, 9, 7), 0);
        for (int i = 1; i < 24; i++) {
            check.due("person " + i, x.person(0, 0, 0), i);
        }
        check.due("a 25th", x.person(0, 0, 0), -1);
        check.due("persons", x.all(0), 24);
        check.due("posts of 23", x.posts(23, 0), 0);
        check.due("posts of 24", x.posts(24, 0), -1);
    }

    private static void posts() {
        PaperChancery x = new PaperChancery();
        check.due("diocese -1", x.post(-1, 1), -1);
        check.due("diocese 8", x.post(8, 1), -1);
        check.due("worth 0", x.post(0, 0), -1);
        check.due("worth 1001", x.post(0, 1001), -1);
        check.due("worth MIN", x.post(0, Integer.MIN_VALUE), -1);
        check.due("least", x.post(0, 1), 0);
        check.due("greatest", x.post(7, 1000), 1);
        for (int i = 2; i < 16; i++) {
            check.due("post " + i, x.post(0, 5), i);
        }
        check.due("a 17th", x.post(0, 5), -1);
        check.due("posts", x.all(1), 16);
        check.due("posts free", x.all(5), 16);
        check.due("since(15)", x.since(15), 0);
        check.due("since(16)", x.since(16), -1);
    }

    private static void seats() {
        PaperChancery x = Check.house(2, 2);
        check.due("seat(-1, 0)", x.seat(-1, 0), false);
        check.due("seat(2, 0)", x.seat(2, 0), false);
        check.due("seat(0, 2)", x.seat(0, 2), false);
        check.due("seat(0, -2)", x.seat(0, -2), false);
        check.due("seat(0, 1)", x.seat(0, 1), true);
        check.due("seat(1, 1)", x.seat(1, 1), true);
        check.due("holder(0, 0)", x.holder(0, 0), 1);
        check.due("posts(1, 0)", x.posts(1, 0), 2);
        check.due("seat(0, 0)", x.seat(0, 0), true);
        check.due("holder(0, 0) anew", x.holder(0, 0), 0);
        check.due("posts(1, 0) anew", x.posts(1, 0), 1);
        check.due("seat(0, NONE)", x.seat(0, -1), true);
        check.due("holder(0, 0) of none", x.holder(0, 0), -1);
        check.due("seat(0, NONE) again", x.seat(0, -1), true);
        check.due("posts free", x.all(5), 1);
    }

    private static void seatsEndWithNews() {
        PaperChancery x = Check.house(2, 2);
        x.seat(0, 0);
        check.due("swap", x.swap(0, 1, 5), 1);
        check.due("seat(0, 1)", x.seat(0, 1), false);
        check.due("seat(0, NONE)", x.seat(0, -1), false);
        x.as(0);
        check.due("seat(0, 1) as known at none", x.seat(0, 1), false);
        check.due("holder(0, 9)", x.holder(0, 9), 0);
        check.due("a person behind news", x.person(1, 1, 1), 2);
        check.due("a post behind news", x.post(1, 1), 2);
        check.due("its holder", x.holder(2, 9), -1);
    }
}
