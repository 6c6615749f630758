/** Promises 24 to 27 with Terms V: a test of its own for each sentence that names an edge. */
public final class RingsEdgesTest {
    private static final Check check = new Check();

    public static void main(String[] args) {
        upToThreeWishes();
        noSuchWish();
        itIsOne();
        thereAreThree();
        theFirstWishFirst();
        wishesGo();
        noSuchContent();
        whoHoldJustOne();
        themselvesIfThereIsNone();
        ringsOfAllSizes();
        againAndAgain();
        atTheEndAsKnown();
        gotByTheLatestRings();
        gotNone();
        check.finish();
    }

    /** Four persons seated, of whom 0 has three wishes, 1 two, 2 one and 3 none. */
    private static PaperChancery wishing() {
        PaperChancery x = Check.seated(4);
        x.wish(0, 1);
        x.wish(0, 2);
        x.wish(0, 3);
        x.wish(1, 0);
        x.wish(1, 1);
        x.wish(2, 0);
        return x;
    }

    private static void got(PaperChancery x, String name, int... want) {
        for (int person = 0; person < want.length; person++) {
            check.due(name + ": got(" + person + ")", x.got(person), want[person]);
        }
    }

    private static void upToThreeWishes() {
        check.sentence("24: A WISH more of a PERSON: how many; V: up to 3 WISHES");
        PaperChancery x = Check.house(24, 16);
        for (int person : new int[] {0, 1, 23}) {
            check.due("the first of " + person, x.wish(person, 15), 1);
            check.due("the second of " + person, x.wish(person, 0), 2);
            check.due("the third of " + person, x.wish(person, person == 1 ? 1 : 7), 3);
        }
        for (int person : new int[] {0, 1, 23}) {
            check.due("all of " + person, x.content(person), 3);
        }
        check.due("another has none", x.content(2), 0);
        check.due("one's own post", Check.seated(1).wish(0, 0), 1);
    }

    private static void noSuchWish() {
        check.sentence("24: NONE if there is no such PERSON, POST");
        for (int person : new int[] {-1, 4, 24, Integer.MIN_VALUE, Integer.MAX_VALUE}) {
            check.refused("person " + person, RingsEdgesTest::wishing, x -> x.wish(person, 0), -1);
        }
        for (int post : new int[] {-1, 4, 16, Integer.MIN_VALUE, Integer.MAX_VALUE}) {
            check.refused("post " + post, RingsEdgesTest::wishing, x -> x.wish(3, post), -1);
        }
        check.due("full: person 24", Check.house(24, 16).wish(24, 0), -1);
        check.due("full: post 16", Check.house(24, 16).wish(0, 16), -1);
        check.due("without persons", Check.house(0, 1).wish(0, 0), -1);
        check.due("without posts", Check.house(1, 0).wish(0, 0), -1);
    }

    private static void itIsOne() {
        check.sentence("24: NONE if it is one");
        for (int post : new int[] {1, 2, 3}) {
            check.refused("a wish of three, " + post, RingsEdgesTest::wishing, x -> x.wish(0, post), -1);
        }
        check.refused("a wish of two, the first", RingsEdgesTest::wishing, x -> x.wish(1, 0), -1);
        check.refused("a wish of two, the second", RingsEdgesTest::wishing, x -> x.wish(1, 1), -1);
        check.refused("a wish of one", RingsEdgesTest::wishing, x -> x.wish(2, 0), -1);
        PaperChancery x = wishing();
        check.due("another's wish is none of theirs", x.wish(2, 1), 2);
        x.content(2);
        check.due("one that went is none", x.wish(2, 0), 1);
    }

    private static void thereAreThree() {
        check.sentence("24: NONE if there are 3");
        check.refused("a fourth", RingsEdgesTest::wishing, x -> x.wish(0, 0), -1);
        PaperChancery x = wishing();
        check.due("a third", x.wish(1, 2), 3);
        check.due("a fourth", x.wish(1, 3), -1);
        check.due("three of them", x.content(1), 3);
        check.due("then a first", x.wish(1, 3), 1);
    }

    private static void theFirstWishFirst() {
        check.sentence("V: up to 3 WISHES (POSTS, the first one first)");
        int[][] orders = {{1, 2, 3}, {1, 3, 2}, {2, 1, 3}, {2, 3, 1}, {3, 1, 2}, {3, 2, 1}};
        for (int[] order : orders) {
            PaperChancery x = Check.seated(4);
            for (int post : order) {
                x.wish(0, post);
                x.wish(post, 0);
            }
            check.due("two change", x.rings(), 2);
            check.due("the first of " + order[0] + order[1] + order[2], x.got(0), order[0]);
            check.due("who had it", x.got(order[0]), 0);
            check.due("who had the second", x.got(order[1]), order[1]);
        }
        PaperChancery y = Check.seated(4);
        y.wish(0, 1);
        y.wish(0, 2);
        y.wish(0, 3);
        y.wish(3, 0);
        check.due("the third wish, when those of the first and second have gone", y.rings(), 2);
        got(y, "the third wish", 3, 1, 2, 0);
    }

    private static void wishesGo() {
        check.sentence("25: All WISHES of a PERSON go: how many");
        int[] counts = {3, 2, 1, 0};
        for (int person = 0; person < 4; person++) {
            PaperChancery x = wishing();
            check.due("content(" + person + ")", x.content(person), counts[person]);
            for (int other = 0; other < 4; other++) {
                check.due("then content(" + other + ")", x.content(other), other == person ? 0 : counts[other]);
            }
        }
        PaperChancery y = wishing();
        y.content(0);
        check.due("without those of 0 none changes", y.rings(), 0);
        check.due("those of 1 stayed", y.content(1), 2);
        check.due("those of 2 stayed", y.content(2), 1);
        check.due("a new first one", y.wish(0, 3), 1);
    }

    private static void noSuchContent() {
        check.sentence("25: NONE if there is none such");
        for (int person : new int[] {-1, 4, 24, Integer.MIN_VALUE, Integer.MAX_VALUE}) {
            check.refused("content(" + person + ")", RingsEdgesTest::wishing, x -> x.content(person), -1);
        }
        check.due("the last of 24", Check.house(24, 0).content(23), 0);
        check.due("none behind it", Check.house(24, 0).content(24), -1);
        check.due("without persons", new PaperChancery().content(0), -1);
    }

    private static void whoHoldJustOne() {
        check.sentence("V: PERSONS who hold just one POST at THE COURSE's end");
        PaperChancery x = Check.house(4, 5);
        x.seat(0, 0);
        x.seat(1, 1);
        x.seat(2, 2);
        x.seat(3, 2);
        x.wish(0, 2);
        x.wish(2, 0);
        x.wish(0, 1);
        x.wish(1, 4);
        x.wish(1, 3);
        x.wish(1, 0);
        x.wish(3, 0);
        check.due("who holds none, or two, is not there", x.rings(), 2);
        got(x, "none and two", 1, 0, -1, -1);
        x.resign(3, 0, 5);
        check.due("two posts become one, one becomes two", x.rings(), 0);
        got(x, "changed", -1, 1, 2, -1);
        x.resign(0, 3, 6);
        check.due("one each", x.rings(), 2);
        got(x, "one each", 1, 3, 2, 0);
    }

    private static void themselvesIfThereIsNone() {
        check.sentence("V: themselves if there is none such; get their own, if to themselves");
        PaperChancery x = Check.seated(3);
        check.due("without wishes", x.rings(), 0);
        got(x, "without wishes", 0, 1, 2);
        x.post(0, 5);
        x.wish(0, 3);
        check.due("for a free post", x.rings(), 0);
        got(x, "for a free post", 0, 1, 2);
        x.wish(0, 0);
        x.wish(0, 1);
        x.wish(1, 0);
        check.due("for one's own ahead of another's", x.rings(), 0);
        got(x, "one's own", 0, 1, 2);
        check.due("without persons and posts", new PaperChancery().rings(), 0);
        PaperChancery y = Check.house(2, 2);
        y.wish(0, 1);
        check.due("without holders", y.rings(), 0);
        got(y, "without holders", -1, -1);
    }

    private static void ringsOfAllSizes() {
        check.sentence("26: RINGS: how many PERSONS get another POST than their own");
        for (int size = 1; size <= 16; size++) {
            PaperChancery x = Check.seated(16);
            for (int i = 0; i < size; i++) {
                x.wish(i, (i + 1) % size);
            }
            check.due("a ring of " + size, x.rings(), size == 1 ? 0 : size);
            check.due("the last of the ring", x.got(size - 1), 0);
            check.due("the first of the ring", x.got(0), size == 1 ? 0 : 1);
            if (size < 16) {
                check.due("who is not in it", x.got(size), size);
            }
        }
        PaperChancery y = Check.seated(16);
        for (int i = 0; i < 16; i++) {
            y.wish(i, i ^ 1);
        }
        check.due("eight rings of two", y.rings(), 16);
        PaperChancery z = Check.house(24, 16);
        for (int i = 0; i < 16; i++) {
            z.seat(i, 8 + i);
            z.wish(8 + i, 15 - i);
        }
        check.due("the last persons", z.rings(), 16);
        check.due("the very last", z.got(23), 0);
        check.due("the first of them", z.got(8), 15);
    }

    private static void againAndAgain() {
        check.sentence("V: Again and again: each who is still there points to the holder of their first WISH that is held by one "
                + "who is still there");
        PaperChancery x = Check.seated(16);
        for (int i = 1; i < 16; i++) {
            x.wish(i, i - 1);
        }
        check.due("one leaves a round, for sixteen rounds", x.rings(), 0);
        got(x, "one a round", 0, 1, 2, 3, 4, 5, 6, 7, 8, 9, 10, 11, 12, 13, 14, 15);
        PaperChancery y = Check.seated(16);
        for (int i = 0; i < 16; i++) {
            if (i > 1) {
                y.wish(i, i - 2 - i % 2);
            }
            y.wish(i, i ^ 1);
        }
        check.due("two leave a round", y.rings(), 16);
        got(y, "two a round", 1, 0, 3, 2, 5, 4, 7, 6);
        PaperChancery z = Check.seated(3);
        z.wish(0, 1);
        z.wish(1, 0);
        z.wish(2, 0);
        z.wish(2, 1);
        check.due("who points to a ring is not in it", z.rings(), 2);
        got(z, "a tail", 1, 0, 2);
    }

    private static void atTheEndAsKnown() {
        check.sentence("26: RINGS at THE COURSE's end, as known at the NEWS as known at which all is told");
        PaperChancery x = Check.seated(3);
        x.wish(0, 1);
        x.wish(1, 0);
        x.death(0, Check.LAST_TIME);
        check.due("the last time counts", x.rings(), 0);
        got(x, "dead at last", -1, 1, 2);
        x.as(0);
        check.due("as known at none", x.rings(), 2);
        got(x, "as known at none", 1, 0, 2);
        check.due("nobody changes places by it", x.holder(0, Check.LAST_TIME), 0);
        check.due("wishes stay", x.content(0), 1);
        check.due("again without", x.rings(), 0);
    }

    private static void gotByTheLatestRings() {
        check.sentence("27: What POST a PERSON got by the latest rings()");
        PaperChancery x = Check.seated(2);
        got(x, "ahead of any", -1, -1);
        x.wish(0, 1);
        x.wish(1, 0);
        got(x, "wishes alone", -1, -1);
        x.rings();
        got(x, "the first", 1, 0);
        x.content(0);
        x.death(1, 5);
        x.as(0);
        x.person(0, 0, 0);
        got(x, "what comes later does not matter", 1, 0, -1);
        x.rings();
        got(x, "the second", 0, 1, -1);
        x.as(-1);
        x.rings();
        got(x, "the third", 0, -1, -1);
    }

    private static void gotNone() {
        check.sentence("27: NONE if there is none such, or they held not just one");
        PaperChancery x = Check.house(24, 16);
        x.seat(0, 0);
        x.seat(15, 23);
        x.seat(1, 5);
        x.seat(2, 5);
        check.due("rings", x.rings(), 0);
        check.due("the first person", x.got(0), 0);
        check.due("the last person", x.got(23), 15);
        check.due("who held none", x.got(1), -1);
        check.due("who held two", x.got(5), -1);
        for (int person : new int[] {-1, 24, Integer.MIN_VALUE, Integer.MAX_VALUE}) {
            check.due("got(" + person + ")", x.got(person), -1);
        }
        check.due("without persons", new PaperChancery().got(0), -1);
    }
}
