/** Promises 1 to 6 with Terms I: a test of its own for each sentence that names an edge. */
public final class TapeRollEdgesTest {
    private static final Check check = new Check();
    private static final int BLANKS = 0x20202020;
    private static final int WRONG = 0xffffffff;

    public static void main(String[] args) {
        aNewObjectHasNone();
        twentyBytesComeBehind();
        theHighestByteFirst();
        noMoreThan400Bytes();
        theFirstBytesAlone();
        notSoManyBytes();
        personsThatCannotBe();
        personsAtTheEdges();
        noMoreThan24Persons();
        postsThatCannotBe();
        postsAtTheEdges();
        noMoreThan16Posts();
        seatedWithNone();
        noSuchSeat();
        noSeatBehindNews();
        check.finish();
    }

    private static void aNewObjectHasNone() {
        check.sentence("1: No PERSONS, POSTS, NEWS, REIGNS");
        PaperChancery other = Check.seated(2);
        other.paper(0, 1, 1, 1, 1, 1000);
        other.reign(0);
        PaperChancery x = new PaperChancery();
        for (int what = 0; what <= 6; what++) {
            check.due("all(" + what + ") beside another object", x.all(what), 0);
        }
        check.due("holder(0, 0)", x.holder(0, 0), -1);
        check.due("posts(0, 0)", x.posts(0, 0), -1);
        check.due("due(0, 0)", x.due(0, 0), -1);
        check.due("paperOf(0, 3)", x.paperOf(0, 3), -2);
        check.due("claims(0, 0)", x.claims(0, 0), -1);
        check.due("claim(0)", x.claim(0), -1);
        check.due("by(0, 0, 0, 1)", x.by(0, 0, 0, 1), -1000);
        check.due("since(0)", x.since(0), -1);
        check.due("seat(0, 0)", x.seat(0, 0), false);
        check.due("seat(0, NONE)", x.seat(0, -1), false);
        check.due("paper of 0", x.paper(0, 0, 0, 0, 1, 1), -1);
        check.due("death(0, 0)", x.death(0, 0), -1);
        check.due("resign(0, 0, 0)", x.resign(0, 0, 0), -1);
        check.due("swap(0, 1, 0)", x.swap(0, 1, 0), -1);
        check.due("disprove(0)", x.disprove(0), -1);
        check.due("as(1)", x.as(1), false);
        check.due("wish(0, 0)", x.wish(0, 0), -1);
        check.due("content(0)", x.content(0), -1);
        check.due("rings()", x.rings(), 0);
        check.due("got(0)", x.got(0), -1);
        check.due("the tape is empty", x.end(1), false);
        check.due("the first person", x.person(0, 0, 0), 0);
        check.due("the first post", x.post(0, 1), 0);
        check.due("the first news", x.death(0, 0), 1);
        check.due("the first reign", x.reign(0), 0);
    }

    private static void twentyBytesComeBehind() {
        check.sentence("2: Twenty bytes come behind those on the tape: how many there are");
        PaperChancery x = new PaperChancery();
        for (int count = 20; count <= 400; count += 20) {
            check.due("feed up to " + count, x.feed(BLANKS, BLANKS, BLANKS, BLANKS, BLANKS), count);
        }
        for (int left = 0; left <= 20; left++) {
            PaperChancery y = new PaperChancery();
            y.feed(BLANKS, BLANKS, BLANKS, BLANKS, BLANKS);
            y.end(left);
            check.due("feed behind " + left, y.feed(0x686f6d65, 0x3b202020, BLANKS, BLANKS, 0x202020ff), left + 20);
            check.due("their text", y.reign(0), -1);
            check.due("the last byte behind " + left, y.fault(1), left + 19);
        }
    }

    private static void theHighestByteFirst() {
        check.sentence("2: of each number the highest first");
        for (int place = 0; place < 20; place++) {
            int[] numbers = {BLANKS, BLANKS, BLANKS, BLANKS, BLANKS};
            numbers[place / 4] |= 0xff000000 >>> 8 * (place % 4);
            PaperChancery x = new PaperChancery();
            x.feed(numbers[0], numbers[1], numbers[2], numbers[3], numbers[4]);
            check.due("a wrong byte", x.reign(0), -1);
            check.due("a wrong byte at " + place, x.fault(1), place);
        }
        PaperChancery y = new PaperChancery();
        y.feed(0x686f6d65, 0x3bffffff, -1, -1, -1);
        y.end(5);
        check.due("home;", y.reign(0), 1);
        y.feed(0xe8efede5, 0xbb202020, BLANKS, BLANKS, BLANKS);
        check.due("home; with the highest bits set", y.reign(0), -1);
        check.due("its place", y.fault(1), 0);
        y.feed(0xa0a0a0a0, 0x8a8a8a8a, BLANKS, BLANKS, BLANKS);
        check.due("blanks with the highest bits set", y.reign(0), -1);
    }

    /** A tape of so many bytes: home; and blanks. */
    private static PaperChancery tapeOf(int length) {
        PaperChancery x = new PaperChancery();
        x.feed(0x686f6d65, 0x3b202020, BLANKS, BLANKS, BLANKS);
        for (int count = 20; count < 400; count += 20) {
            x.feed(BLANKS, BLANKS, BLANKS, BLANKS, BLANKS);
        }
        x.end(length);
        return x;
    }

    private static void noMoreThan400Bytes() {
        check.sentence("2: NONE, doing nothing, if there would be more than 400");
        check.due("feed behind 380", tapeOf(380).feed(WRONG, WRONG, WRONG, WRONG, WRONG), 400);
        check.due("feed behind 379", tapeOf(379).feed(WRONG, WRONG, WRONG, WRONG, WRONG), 399);
        for (int length = 381; length <= 400; length++) {
            PaperChancery x = tapeOf(length);
            check.due("feed behind " + length, x.feed(WRONG, WRONG, WRONG, WRONG, WRONG), -1);
            check.due("again", x.feed(WRONG, WRONG, WRONG, WRONG, WRONG), -1);
            check.due("a byte more than " + length, x.end(length + 1), false);
            check.due("so many are there still", x.end(length), true);
            check.due("the text is as it was", x.reign(0), 1);
        }
        PaperChancery y = tapeOf(400);
        y.feed(WRONG, WRONG, WRONG, WRONG, WRONG);
        y.end(380);
        check.due("behind a cut there is room again", y.feed(BLANKS, BLANKS, BLANKS, BLANKS, BLANKS), 400);
        check.due("a text of 400 bytes", y.reign(0), 1);
        check.due("the next tape begins anew", y.feed(BLANKS, BLANKS, BLANKS, BLANKS, BLANKS), 20);
    }

    private static void theFirstBytesAlone() {
        check.sentence("3: The tape has its first n bytes alone: true");
        String text = "home;with a;low date;high days;home;home";
        int[] rules = {0, 1, 2, 3, 4, 5};
        int[] ends = {0, 5, 12, 21, 31, 36};
        for (int i = 0; i < ends.length; i++) {
            PaperChancery x = new PaperChancery();
            Check.write(x, text);
            check.due("end(" + ends[i] + ")", x.end(ends[i]), true);
            check.due("feed behind that", x.feed(BLANKS, BLANKS, BLANKS, BLANKS, BLANKS), ends[i] + 20);
            check.due("rules", x.reign(0), rules[i]);
        }
        PaperChancery y = new PaperChancery();
        check.due("end(0) of an empty tape", y.end(0), true);
        Check.write(y, text);
        check.due("all of them", y.end(40), true);
        check.due("all of them again", y.end(40), true);
        check.due("one less", y.end(39), true);
        check.due("which stays one less", y.end(40), false);
        check.due("full", tapeOf(400).end(400), true);
    }

    private static void notSoManyBytes() {
        check.sentence("3: false, doing nothing, if it has not so many, or n is below 0");
        PaperChancery x = new PaperChancery();
        check.due("end(1) of an empty tape", x.end(1), false);
        check.due("end(-1) of an empty tape", x.end(-1), false);
        check.due("nothing came", x.feed(0x686f6d65, 0x3b686f6d, 0x653b2020, BLANKS, BLANKS), 20);
        for (int n : new int[] {21, 22, 400, 401, -1, -2, -20, Integer.MIN_VALUE, Integer.MAX_VALUE}) {
            check.due("end(" + n + ") of 20 bytes", x.end(n), false);
        }
        check.due("20 bytes are there still", x.end(20), true);
        check.due("their text is as it was", x.reign(0), 2);
        PaperChancery y = tapeOf(400);
        check.due("end(401) of a full tape", y.end(401), false);
        check.due("it is full still", y.end(400), true);
        y.reign(0);
        check.due("end(1) behind a reign", y.end(1), false);
    }

    private static void personsThatCannotBe() {
        check.sentence("4: A PERSON: NONE if something can't be");
        int[] grades = {-1, 10, Integer.MIN_VALUE, Integer.MAX_VALUE};
        for (int grade : grades) {
            check.refused("degree " + grade, () -> Check.seated(2), x -> x.person(grade, 0, 0), -1);
            check.refused("rank " + grade, () -> Check.seated(2), x -> x.person(0, grade, 0), -1);
        }
        for (int diocese : new int[] {-1, 8, Integer.MIN_VALUE, Integer.MAX_VALUE}) {
            check.refused("diocese " + diocese, () -> Check.seated(2), x -> x.person(0, 0, diocese), -1);
        }
    }

    /** Each degree, rank and diocese is kept as it was told. */
    private static void personsAtTheEdges() {
        check.sentence("I: PERSONS, each with DEGREE, RANK (0 .. 9) and a DIOCESE (0 .. 7)");
        PaperChancery z = new PaperChancery();
        for (int value = 0; value <= 9; value++) {
            check.due("degree " + value + ", rank " + (9 - value), z.person(value, 9 - value, 0), value);
        }
        z.post(0, 10);
        z.seat(0, 0);
        for (int person = 0; person <= 9; person++) {
            z.paper(person, 0, 0, 255, 1, 1000);
        }
        Check.reign(z, 1, "high degree;");
        Check.reign(z, 2, "high rank;");
        Check.reign(z, 3, "bar degree=9;bar rank>8;");
        check.due("all by degree", z.claims(0, 1), 10);
        for (int k = 0; k <= 9; k++) {
            check.due("by degree " + k, z.claim(k), 9 - k);
        }
        check.due("all by rank", z.claims(0, 2), 10);
        for (int k = 0; k <= 9; k++) {
            check.due("by rank " + k, z.claim(k), k);
        }
        check.due("without degree 9 and rank 9", z.claims(0, 3), 8);
        check.due("the first of them", z.claim(0), 1);
        for (int diocese = 0; diocese <= 7; diocese++) {
            PaperChancery x = new PaperChancery();
            x.person(0, 0, 7 - diocese);
            check.due("diocese " + diocese, x.person(0, 0, diocese), 1);
            check.due("post in " + diocese, x.post(diocese, 1), 0);
            x.paper(0, 0, 0, 0, 1, 1);
            x.paper(1, 0, 0, 0, 1, 1);
            Check.reign(x, 0, "home;");
            check.due("who is at home in " + diocese, x.by(0, 0, 0, 1), -1);
        }
    }

    private static void noMoreThan24Persons() {
        check.sentence("4: NONE if there are 24");
        PaperChancery x = new PaperChancery();
        for (int i = 0; i < 24; i++) {
            check.due("person " + i, x.person(i % 10, 0, 0), i);
            check.due("persons", x.all(0), i + 1);
        }
        check.due("a 25th", x.person(0, 0, 0), -1);
        check.refused("a 25th", () -> Check.house(24, 2), y -> y.person(9, 9, 7), -1);
        check.due("persons still", x.all(0), 24);
        check.due("the last one", x.posts(23, 0), 0);
        check.due("none behind it", x.posts(24, 0), -1);
    }

    private static void postsThatCannotBe() {
        check.sentence("5: A POST: NONE if something can't be");
        for (int diocese : new int[] {-1, 8, Integer.MIN_VALUE, Integer.MAX_VALUE}) {
            check.refused("diocese " + diocese, () -> Check.seated(2), x -> x.post(diocese, 5), -1);
        }
        for (int worth : new int[] {0, 1001, -1, Integer.MIN_VALUE, Integer.MAX_VALUE}) {
            check.refused("worth " + worth, () -> Check.seated(2), x -> x.post(0, worth), -1);
        }
    }

    private static void postsAtTheEdges() {
        check.sentence("I: POSTS, each in a DIOCESE, with a WORTH (1 .. 1000)");
        for (int worth : new int[] {1, 2, 999, 1000}) {
            PaperChancery x = Check.house(1, 0);
            check.due("worth " + worth, x.post(7, worth), 0);
            x.seat(0, 0);
            check.due("due of worth " + worth, x.due(0, 1440), worth);
        }
        for (int diocese = 0; diocese <= 7; diocese++) {
            PaperChancery x = Check.house(1, 0);
            check.due("diocese " + diocese, x.post(diocese, 5), 0);
            x.paper(0, 0, 0, 255 - (1 << diocese), 1, 1000);
            check.due("a paper for all others", x.holder(0, 0), -1);
            x.paper(0, 0, 0, 1 << diocese, 1, 1000);
            check.due("a paper for it", x.holder(0, 0), 0);
        }
    }

    private static void noMoreThan16Posts() {
        check.sentence("5: NONE if there are 16");
        PaperChancery x = Check.house(1, 0);
        for (int i = 0; i < 16; i++) {
            check.due("post " + i, x.post(i % 8, 1000), i);
            check.due("posts", x.all(1), i + 1);
        }
        check.due("a 17th", x.post(0, 1), -1);
        check.refused("a 17th", () -> Check.house(2, 16), y -> y.post(7, 1000), -1);
        check.due("posts still", x.all(1), 16);
        check.due("the last one", x.since(15), 0);
        check.due("none behind it", x.since(16), -1);
    }

    private static void seatedWithNone() {
        check.sentence("6: A POST is SEATED with a PERSON (NONE: with none): true");
        PaperChancery x = Check.house(24, 16);
        check.due("the first of each", x.seat(0, 0), true);
        check.due("the last of each", x.seat(15, 23), true);
        check.due("holder of the first", x.holder(0, 0), 0);
        check.due("holder of the last", x.holder(15, Check.LAST_TIME), 23);
        check.due("one of them twice", x.seat(1, 23), true);
        check.due("two posts", x.posts(23, 0), 2);
        check.due("seat(15, NONE)", x.seat(15, -1), true);
        check.due("its holder", x.holder(15, 0), -1);
        check.due("seat(15, NONE) again", x.seat(15, -1), true);
        check.due("one post", x.posts(23, 0), 1);
        check.due("seat(1, 0)", x.seat(1, 0), true);
        check.due("no post", x.posts(23, 0), 0);
        check.due("as known at none", x.as(0), true);
        check.due("ahead of all news", x.holder(1, 0), 0);
    }

    private static void noSuchSeat() {
        check.sentence("6: false if there is none such");
        for (int post : new int[] {-1, 3, Integer.MIN_VALUE, Integer.MAX_VALUE}) {
            check.refused("post " + post, () -> Check.seated(3), x -> x.seat(post, 0) ? 1 : 0, 0);
            check.refused("post " + post + " with none", () -> Check.seated(3), x -> x.seat(post, -1) ? 1 : 0, 0);
        }
        for (int person : new int[] {-2, 3, Integer.MIN_VALUE, Integer.MAX_VALUE}) {
            check.refused("person " + person, () -> Check.seated(3), x -> x.seat(0, person) ? 1 : 0, 0);
        }
        check.due("full: post 16", Check.house(24, 16).seat(16, 0), false);
        check.due("full: person 24", Check.house(24, 16).seat(0, 24), false);
        check.due("without posts", Check.house(1, 0).seat(0, 0), false);
        check.due("without persons", Check.house(0, 1).seat(0, 0), false);
        check.due("without persons, with none", Check.house(0, 1).seat(0, -1), true);
    }

    private static PaperChancery withNews(int kind) {
        PaperChancery x = Check.seated(3);
        switch (kind) {
            case 0: x.paper(0, 5, 0, 0, 1, 1); break;
            case 1: x.death(0, 5); break;
            case 2: x.resign(0, 1, 5); break;
            default: x.swap(0, 1, 5); break;
        }
        return x;
    }

    private static void noSeatBehindNews() {
        check.sentence("6: false if there are NEWS");
        for (int kind = 0; kind < 4; kind++) {
            int news = kind;
            check.refused("seat behind news " + kind, () -> withNews(news), x -> x.seat(0, 2) ? 1 : 0, 0);
            check.refused("seat(0, NONE) behind " + kind, () -> withNews(news), x -> x.seat(0, -1) ? 1 : 0, 0);
        }
        PaperChancery x = withNews(0);
        x.as(0);
        check.due("seat as known at none", x.seat(0, 1), false);
        x.disprove(0);
        check.due("seat behind a void paper", x.seat(0, 1), false);
        PaperChancery y = Check.seated(2);
        y.death(2, 0);
        y.resign(0, -1, 0);
        y.swap(0, 0, 0);
        y.disprove(0);
        y.paper(0, -1, 0, 0, 1, 1);
        check.due("seat behind refused news", y.seat(0, 1), true);
        check.due("its holder", y.holder(0, 0), 1);
    }
}
