import java.util.function.Supplier;

/** Promises 9 to 14 with Terms II: a test of its own for each sentence that names an edge. */
public final class NewsEdgesTest {
    private static final Check check = new Check();

    public static void main(String[] args) {
        papersThatCannotBe();
        papersAtTheEdges();
        numbersOfPapersAndNews();
        noMoreThan48Papers();
        noMoreThan160News();
        deathsThatCannotBe();
        resignationsThatCannotBe();
        swapsThatCannotBe();
        newsAtTheEdges();
        papersThatAreNotThere();
        toldVoidBefore();
        asKnownAtEach();
        asKnownAtNoSuch();
        alwaysTheLastOnes();
        check.finish();
    }

    /** Three persons seated, news of all kinds, a reign, wishes, claims and rings behind it, and a tape. */
    private static PaperChancery busy() {
        PaperChancery x = Check.seated(3);
        x.post(1, 50);
        Check.reign(x, 3, "low date;");
        x.paper(0, 5, 3, 3, 1, 1000);
        x.paper(1, 4, 9, 1, 1, 1000);
        x.resign(2, 0, 6);
        x.swap(0, 1, 8);
        x.death(1, 9);
        x.disprove(1);
        x.wish(0, 1);
        x.wish(2, 0);
        x.claims(1, 8);
        x.rings();
        Check.write(x, "home;");
        return x;
    }

    private static void papersThatCannotBe() {
        check.sentence("9: NEWS of a PAPER: NONE if something can't be");
        for (int person : new int[] {-1, 3, Integer.MIN_VALUE, Integer.MAX_VALUE}) {
            check.refused("person " + person, NewsEdgesTest::busy, x -> x.paper(person, 5, 0, 1, 1, 1000), -1);
        }
        for (int date : Check.NO_TIMES) {
            check.refused("date " + date, NewsEdgesTest::busy, x -> x.paper(0, date, 0, 1, 1, 1000), -1);
        }
        for (int bits : new int[] {-1, 256, Integer.MIN_VALUE, Integer.MAX_VALUE}) {
            check.refused("clauses " + bits, NewsEdgesTest::busy, x -> x.paper(0, 5, bits, 1, 1, 1000), -1);
            check.refused("dioceses " + bits, NewsEdgesTest::busy, x -> x.paper(0, 5, 0, bits, 1, 1000), -1);
        }
        int[][] worths = {{0, 1000}, {-1, 5}, {1001, 1001}, {1001, 1000}, {1, 0}, {1, 1001}, {500, 499}, {1000, 999},
            {1000, 1001}, {0, 0}, {Integer.MIN_VALUE, 5}, {5, Integer.MIN_VALUE}, {5, Integer.MAX_VALUE},
            {Integer.MAX_VALUE, Integer.MAX_VALUE}};
        for (int[] pair : worths) {
            check.refused("worths " + pair[0] + " to " + pair[1], NewsEdgesTest::busy,
                    x -> x.paper(0, 5, 0, 1, pair[0], pair[1]), -1);
        }
    }

    private static void papersAtTheEdges() {
        check.sentence("9: clauses, dioceses 0 .. 255, least 1 .. 1000, most from least up to 1000");
        int[][] papers = {{0, 0, 0, 0, 1, 1}, {23, Check.LAST_TIME, 255, 255, 1000, 1000}, {0, 0, 255, 0, 1, 1000},
            {1, 1, 0, 255, 999, 1000}, {0, Check.LAST_TIME, 1, 128, 1, 2}, {22, 5, 128, 1, 500, 500}};
        PaperChancery x = Check.house(24, 1);
        for (int i = 0; i < papers.length; i++) {
            int[] p = papers[i];
            check.due("paper " + i, x.paper(p[0], p[1], p[2], p[3], p[4], p[5]), i + 1);
        }
        check.due("papers", x.all(2), papers.length);
        reach(0, 1);
        reach(7, 1);
        reach(0, 1000);
        reach(7, 500);
        PaperChancery y = Check.house(1, 1);
        y.paper(0, 5, 255, 0, 1, 1000);
        check.due("for no dioceses", y.holder(0, 9), -1);
        check.due("it is live all the same", y.paperOf(0, 2), 1);
    }

    /** A post of that diocese and worth is reached by papers for it, from it, up to it; by none beside it. */
    private static void reach(int diocese, int worth) {
        int bit = 1 << diocese;
        int[][] papers = {{bit, worth, worth}, {255, 1, worth}, {255, worth, 1000}, {255 - bit, 1, 1000},
            {255, 1, worth - 1}, {255, worth + 1, 1000}};
        for (int i = 0; i < papers.length; i++) {
            PaperChancery x = Check.house(1, 0);
            x.post(diocese, worth);
            int news = x.paper(0, 5, 0, papers[i][0], papers[i][1], papers[i][2]);
            check.due("reach " + i + " of diocese " + diocese + ", worth " + worth, x.holder(0, 5), news == 1 && i < 3 ? 0 : -1);
        }
    }

    private static void numbersOfPapersAndNews() {
        check.sentence("II: NEWS, numbered from 1 on; a PAPER (numbered from 0 on)");
        PaperChancery x = Check.seated(2);
        check.due("the first news", x.death(0, 9), 1);
        check.due("the second, a paper", x.paper(1, 5, 0, 1, 1, 1000), 2);
        check.due("the paper's news", x.paperOf(0, 3), 2);
        check.due("the third, a paper", x.paper(1, 5, 0, 1, 1, 1000), 3);
        check.due("a refused one", x.paper(1, 5, 0, 1, 0, 1000), -1);
        check.due("the fourth, void", x.disprove(0), 4);
        check.due("the fifth, a paper", x.paper(1, 5, 0, 1, 1, 1000), 5);
        check.due("the third paper's news", x.paperOf(2, 3), 5);
        check.due("there is no fourth", x.paperOf(3, 3), -2);
    }

    private static PaperChancery papers(int count) {
        PaperChancery x = Check.house(2, 1);
        for (int i = 0; i < count; i++) {
            x.paper(i % 2, 5, i, 1, 1, 1000);
        }
        return x;
    }

    private static void noMoreThan48Papers() {
        check.sentence("9: NONE if there are 48 PAPERS");
        check.due("a 48th", papers(47).paper(0, 0, 0, 1, 1, 1), 48);
        check.refused("a 49th", () -> papers(48), x -> x.paper(0, 0, 0, 1, 1, 1), -1);
        PaperChancery x = papers(48);
        check.due("the last one", x.paperOf(47, 3), 48);
        check.due("none behind it", x.paperOf(48, 3), -2);
        check.due("other news", x.death(0, 9), 49);
        check.due("void ones", x.disprove(47), 50);
        check.due("void ones are papers still", x.paper(0, 0, 0, 1, 1, 1), -1);
        x.as(0);
        check.due("those not known are papers, too", x.paper(0, 0, 0, 1, 1, 1), -1);
        check.due("papers", x.all(2), 48);
    }

    /** So many news, of which 1 to 3 are papers. */
    private static PaperChancery news(int count) {
        PaperChancery x = Check.seated(3);
        for (int i = 1; i <= count; i++) {
            if (i <= 3) {
                x.paper(i - 1, 5, 0, 1, 1, 1000);
            } else {
                x.resign(i % 3, (i + 1) % 3, 400 - i);
            }
        }
        return x;
    }

    private static void noMoreThan160News() {
        check.sentence("9 to 13: NONE if there are 160 NEWS");
        check.due("the 160th a paper", news(159).paper(0, 0, 0, 1, 1, 1), 160);
        check.due("the 160th a death", news(159).death(0, 0), 160);
        check.due("the 160th a resignation", news(159).resign(0, 1, 0), 160);
        check.due("the 160th a swap", news(159).swap(0, 1, 0), 160);
        check.due("the 160th a disproof", news(159).disprove(0), 160);
        Supplier<PaperChancery> full = () -> news(160);
        check.refused("a 161st: a paper", full, x -> x.paper(0, 0, 0, 1, 1, 1), -1);
        check.refused("a 161st: a death", full, x -> x.death(0, 0), -1);
        check.refused("a 161st: a resignation", full, x -> x.resign(0, 1, 0), -1);
        check.refused("a 161st: a swap", full, x -> x.swap(0, 1, 0), -1);
        check.refused("a 161st: a disproof", full, x -> x.disprove(0), -1);
        PaperChancery x = news(160);
        check.due("news", x.all(3), 160);
        check.due("papers", x.all(2), 3);
        check.due("as(159)", x.as(159), true);
        check.due("as known without the 160th, the first in time", x.holder(1, 240), 1);
        check.due("as(160)", x.as(160), true);
        check.due("as known with it", x.holder(1, 240), 2);
    }

    private static void deathsThatCannotBe() {
        check.sentence("10: NEWS of a DEATH: NONE if something can't be");
        for (int person : new int[] {-1, 3, 24, Integer.MIN_VALUE, Integer.MAX_VALUE}) {
            check.refused("person " + person, NewsEdgesTest::busy, x -> x.death(person, 5), -1);
        }
        for (int time : Check.NO_TIMES) {
            check.refused("time " + time, NewsEdgesTest::busy, x -> x.death(0, time), -1);
        }
    }

    private static void resignationsThatCannotBe() {
        check.sentence("11: NEWS of a RESIGNATION: likewise");
        for (int post : new int[] {-1, 4, 16, Integer.MIN_VALUE, Integer.MAX_VALUE}) {
            check.refused("post " + post, NewsEdgesTest::busy, x -> x.resign(post, 0, 5), -1);
        }
        for (int person : new int[] {-1, 3, 24, Integer.MIN_VALUE, Integer.MAX_VALUE}) {
            check.refused("favoured " + person, NewsEdgesTest::busy, x -> x.resign(0, person, 5), -1);
        }
        for (int time : Check.NO_TIMES) {
            check.refused("time " + time, NewsEdgesTest::busy, x -> x.resign(0, 0, time), -1);
        }
    }

    private static void swapsThatCannotBe() {
        check.sentence("12: NEWS of a SWAP of two unlike POSTS: likewise");
        for (int post : new int[] {-1, 4, 16, Integer.MIN_VALUE, Integer.MAX_VALUE}) {
            check.refused("post a " + post, NewsEdgesTest::busy, x -> x.swap(post, 0, 5), -1);
            check.refused("post b " + post, NewsEdgesTest::busy, x -> x.swap(0, post, 5), -1);
            check.refused("both " + post, NewsEdgesTest::busy, x -> x.swap(post, post, 5), -1);
        }
        for (int post = 0; post < 4; post++) {
            int one = post;
            check.refused("alike " + post, NewsEdgesTest::busy, x -> x.swap(one, one, 5), -1);
        }
        for (int time : Check.NO_TIMES) {
            check.refused("time " + time, NewsEdgesTest::busy, x -> x.swap(0, 1, time), -1);
        }
    }

    private static void newsAtTheEdges() {
        check.sentence("10 to 12: the first and the last PERSON, POST, TIME");
        PaperChancery x = Check.house(24, 16);
        x.seat(0, 0);
        x.seat(15, 1);
        check.due("a swap at 0", x.swap(0, 15, 0), 1);
        check.due("a swap turned, at last", x.swap(15, 0, Check.LAST_TIME), 2);
        check.due("a resignation at 0", x.resign(15, 23, 0), 3);
        check.due("a resignation at last", x.resign(0, 0, Check.LAST_TIME), 4);
        check.due("a death at 0", x.death(22, 0), 5);
        check.due("a death at last", x.death(23, Check.LAST_TIME), 6);
        check.due("post 15 at 0", x.holder(15, 0), 23);
        check.due("post 0 at 0", x.holder(0, 0), 1);
        check.due("post 15 ahead of the last time", x.holder(15, Check.LAST_TIME - 1), 23);
        check.due("post 15 at last", x.holder(15, Check.LAST_TIME), 1);
        check.due("post 0 at last", x.holder(0, Check.LAST_TIME), 0);
        check.due("a death of the first person at last", x.death(0, Check.LAST_TIME), 7);
        check.due("post 0 is free", x.holder(0, Check.LAST_TIME), -1);
    }

    private static void papersThatAreNotThere() {
        check.sentence("13: NEWS that a PAPER is VOID: likewise");
        for (int paper : new int[] {-1, 2, 48, Integer.MIN_VALUE, Integer.MAX_VALUE}) {
            check.refused("paper " + paper, NewsEdgesTest::busy, x -> x.disprove(paper), -1);
        }
        check.due("without papers", Check.seated(2).disprove(0), -1);
        check.due("the first of 48", papers(48).disprove(0), 49);
        check.due("the last of 48", papers(48).disprove(47), 49);
        check.due("none behind it", papers(48).disprove(48), -1);
        PaperChancery x = papers(2);
        x.as(0);
        check.due("one that is not known as all is told", x.disprove(1), 3);
        check.due("news", x.all(3), 3);
        check.due("as known at none still", x.all(6), 0);
    }

    private static void toldVoidBefore() {
        check.sentence("13: NONE also if it was told");
        check.refused("a second disproof", NewsEdgesTest::busy, x -> x.disprove(1), -1);
        PaperChancery x = busy();
        x.as(5);
        check.due("as known ahead of the first", x.disprove(1), -1);
        check.due("another one", x.disprove(0), 7);
        check.due("that one again", x.disprove(0), -1);
        PaperChancery y = papers(1);
        check.due("told when it was used", y.disprove(0), 2);
        check.due("a paper just like it", y.paper(0, 5, 0, 1, 1, 1000), 3);
        check.due("which is not void", y.holder(0, 5), 0);
        check.due("nor told void", y.disprove(1), 4);
    }

    private static void asKnownAtEach() {
        check.sentence("14: From now on all is told as known at a NEWS (0: none)");
        PaperChancery x = Check.house(6, 1);
        x.seat(0, 0);
        for (int n = 1; n <= 5; n++) {
            check.due("news " + n, x.resign(0, n, 10 * n), n);
        }
        for (int n = 5; n >= 0; n--) {
            check.due("as(" + n + ")", x.as(n), true);
            check.due("all(6)", x.all(6), n);
            check.due("the last holder", x.holder(0, Check.LAST_TIME), n);
            check.due("posts of " + n, x.posts(n, Check.LAST_TIME), 1);
            check.due("since", x.since(0), n);
            check.due("due of 0", x.due(0, 1440), n == 0 ? 100 : 0);
        }
        check.due("as(0) without news", new PaperChancery().as(0), true);
        PaperChancery y = news(160);
        check.due("as(160)", y.as(160), true);
        check.due("all(6)", y.all(6), 160);
        check.due("as(1)", y.as(1), true);
        check.due("the first paper is known", y.paperOf(0, 3), 1);
        check.due("the second is not", y.paperOf(1, 3), -2);
    }

    private static PaperChancery fixedAt(int news) {
        PaperChancery x = busy();
        x.as(news);
        return x;
    }

    private static void asKnownAtNoSuch() {
        check.sentence("14: false if there are none such");
        for (int news : new int[] {-2, 7, 160, 161, Integer.MIN_VALUE, Integer.MAX_VALUE}) {
            check.refused("as(" + news + ")", NewsEdgesTest::busy, x -> x.as(news) ? 1 : 0, 0);
            check.refused("as(" + news + ") when told at 3", () -> fixedAt(3), x -> x.as(news) ? 1 : 0, 0);
            check.refused("as(" + news + ") when told at none", () -> fixedAt(0), x -> x.as(news) ? 1 : 0, 0);
            PaperChancery x = fixedAt(3);
            x.as(news);
            check.due("told at 3 still", x.all(6), 3);
        }
        check.due("as(1) without news", new PaperChancery().as(1), false);
        check.due("as(161) of 160", news(160).as(161), false);
        PaperChancery y = Check.seated(2);
        check.due("as(1) ahead of it", y.as(1), false);
        y.death(0, 0);
        check.due("as(1) behind it", y.as(1), true);
    }

    private static void alwaysTheLastOnes() {
        check.sentence("14: NONE: always the last ones");
        PaperChancery x = Check.seated(2);
        check.due("as(NONE) without news", x.as(-1), true);
        check.due("all(6)", x.all(6), 0);
        x.resign(0, 1, 5);
        check.due("all(6) goes on", x.all(6), 1);
        check.due("and the holder", x.holder(0, 5), 1);
        check.due("as(1), the last", x.as(1), true);
        x.resign(0, 0, 6);
        check.due("all(6) stays", x.all(6), 1);
        check.due("the holder stays", x.holder(0, 9), 1);
        check.due("as(NONE)", x.as(-1), true);
        check.due("all(6) is the last", x.all(6), 2);
        check.due("the holder, too", x.holder(0, 9), 0);
        x.resign(0, 1, 7);
        check.due("the next one", x.all(6), 3);
        check.due("the next holder", x.holder(0, 9), 1);
    }
}
