/** Promises 15 to 18: holder, paperOf, posts, due; how the course goes on with each kind of news. */
public final class CourseTest {
    private static final Check check = new Check();

    public static void main(String[] args) {
        refusals();
        reach();
        greatestWorthFirst();
        deathFreesAll();
        deathAheadOfAPaper();
        newsOfOneTimeByNumber();
        newsComeLate();
        resignations();
        resignationsAndBars();
        swaps();
        barsInTheCourse();
        aheadInTheCourse();
        aFreePostWaits();
        due();
        papersOf();
        check.finish();
    }

    private static void refusals() {
        PaperChancery x = Check.house(1, 1);
        x.seat(0, 0);
        x.paper(0, 0, 0, 0, 1, 1);
        check.due("holder(-1, 0)", x.holder(-1, 0), -1);
        check.due("holder(1, 0)", x.holder(1, 0), -1);
        check.due("holder(0, -1)", x.holder(0, -1), -1);
        check.due("holder(0, 10000000)", x.holder(0, 10000000), -1);
        check.due("holder(0, 9999999)", x.holder(0, 9999999), 0);
        check.due("posts(-1, 0)", x.posts(-1, 0), -1);
        check.due("posts(1, 0)", x.posts(1, 0), -1);
        check.due("posts(0, -1)", x.posts(0, -1), -1);
        check.due("posts(0, 10000000)", x.posts(0, 10000000), -1);
        check.due("posts(0, 9999999)", x.posts(0, 9999999), 1);
        check.due("due(-1, 0)", x.due(-1, 0), -1);
        check.due("due(1, 0)", x.due(1, 0), -1);
        check.due("due(0, -1)", x.due(0, -1), -1);
        check.due("due(0, 10000000)", x.due(0, 10000000), -1);
        check.due("paperOf(-1, 0)", x.paperOf(-1, 0), -2);
        check.due("paperOf(1, 0)", x.paperOf(1, 0), -2);
        check.due("paperOf(0, -1)", x.paperOf(0, -1), -2);
        check.due("paperOf(0, 4)", x.paperOf(0, 4), -2);
    }

    private static void reach() {
        PaperChancery x = Check.house(5, 0);
        x.post(2, 50);
        x.paper(0, 1, 0, 255 - 4, 1, 1000);
        x.paper(1, 2, 0, 4, 51, 1000);
        x.paper(2, 3, 0, 4, 1, 49);
        check.due("reached by none", x.holder(0, 9), -1);
        x.paper(3, 4, 0, 4, 50, 50);
        check.due("reached just so", x.holder(0, 9), 3);
        check.due("ahead of that", x.holder(0, 3), -1);
        x.paper(4, 4, 0, 4, 50, 50);
        check.due("the later one waits", x.paperOf(4, 2), 1);
    }

    private static void greatestWorthFirst() {
        PaperChancery x = Check.house(4, 0);
        x.post(0, 10);
        x.post(0, 30);
        x.post(0, 30);
        x.post(0, 20);
        for (int i = 0; i < 4; i++) {
            x.paper(i, i, 0, 1, 1, 1000);
        }
        check.due("the first of the greatest", x.holder(1, 9), 0);
        check.due("the second of the greatest", x.holder(2, 9), 1);
        check.due("the third", x.holder(3, 9), 2);
        check.due("the last", x.holder(0, 9), 3);
    }

    private static void deathFreesAll() {
        PaperChancery x = Check.house(4, 3);
        x.seat(0, 0);
        x.seat(1, 3);
        x.seat(2, 0);
        x.paper(1, 5, 0, 1, 1, 1000);
        x.paper(2, 5, 0, 1, 1, 1000);
        x.paper(0, 6, 0, 1, 1, 1000);
        x.death(0, 10);
        check.due("by numbers: the first", x.holder(0, 10), 1);
        check.due("by numbers: the second", x.holder(2, 10), 2);
        check.due("one minute ahead", x.holder(0, 9), 0);
        check.due("another's post", x.holder(1, 10), 3);
        check.due("posts of the dead", x.posts(0, 10), 0);
        check.due("posts ahead of it", x.posts(0, 9), 2);
        check.due("the paper of the dead", x.paperOf(2, 2), 0);
        check.due("is not used", x.paperOf(2, 0), -1);
        x.death(0, 12);
        x.death(1, 20);
        check.due("the dead do not come back", x.holder(0, 30), -1);
        check.due("a second death changes nothing", x.holder(2, 30), 2);
    }

    private static void deathAheadOfAPaper() {
        PaperChancery x = Check.house(2, 1);
        x.paper(0, 10, 0, 1, 1, 1000);
        check.due("used", x.holder(0, 10), 0);
        x.death(0, 9);
        check.due("dead ahead of the date", x.holder(0, 10), -1);
        check.due("not live", x.paperOf(0, 2), 0);
        x.as(1);
        check.due("as known ahead of the death", x.holder(0, 10), 0);
    }

    private static void newsOfOneTimeByNumber() {
        PaperChancery x = Check.house(2, 1);
        x.paper(0, 10, 0, 1, 1, 1000);
        x.death(0, 10);
        x.paper(0, 10, 0, 1, 1, 1000);
        check.due("used, then dead", x.paperOf(0, 0), 0);
        check.due("free again", x.holder(0, 10), -1);
        check.due("dead ahead of the second", x.paperOf(1, 0), -1);
        check.due("which is not live", x.paperOf(1, 2), 0);
        x.paper(1, 10, 0, 1, 1, 1000);
        check.due("another takes it", x.holder(0, 10), 1);
    }

    private static void newsComeLate() {
        PaperChancery x = Check.house(3, 1);
        x.paper(0, 30, 0, 1, 1, 1000);
        check.due("the first that is known", x.holder(0, 50), 0);
        x.paper(1, 20, 0, 1, 1, 1000);
        check.due("an older one", x.holder(0, 50), 1);
        x.paper(2, 20, 0, 1, 1, 1000);
        check.due("one of the same date", x.holder(0, 50), 1);
        x.paper(2, 10, 0, 1, 1, 1000);
        check.due("the oldest", x.holder(0, 50), 2);
        x.disprove(3);
        check.due("which is void", x.holder(0, 50), 1);
        check.due("the void one is not live", x.paperOf(3, 2), 0);
        check.due("the void one is not used", x.paperOf(3, 0), -1);
        check.due("the void one did not wait", x.paperOf(3, 1), -1);
        check.due("the void one's news", x.paperOf(3, 3), 4);
    }

    private static void resignations() {
        PaperChancery x = Check.house(4, 2);
        x.seat(0, 0);
        x.resign(1, 2, 5);
        check.due("none resigns a free post", x.holder(1, 9), -1);
        x.resign(0, 2, 5);
        check.due("in favour", x.holder(0, 5), 2);
        check.due("a minute ahead", x.holder(0, 4), 0);
        x.death(3, 6);
        x.resign(0, 3, 7);
        check.due("the favoured is dead", x.holder(0, 7), -1);
        x.paper(1, 6, 0, 1, 100, 100);
        x.paper(0, 6, 0, 1, 100, 100);
        check.due("the first paper found post 1", x.paperOf(0, 0), 1);
        check.due("the second one post 0", x.holder(0, 7), 0);
        x.resign(0, 0, 8);
        check.due("in one's own favour", x.holder(0, 8), 0);
        check.due("posts", x.posts(0, 8), 1);
    }

    private static void resignationsAndBars() {
        PaperChancery x = Check.house(3, 2);
        x.seat(0, 0);
        x.seat(1, 1);
        Check.reign(x, 0, "bar posts>0;");
        x.resign(0, 1, 5);
        check.due("the favoured is barred", x.holder(0, 5), -1);
        x.resign(1, 1, 6);
        check.due("the post being free, not barred", x.holder(1, 6), 1);
        Check.reign(x, 10, "bar date=0 and days=0;");
        x.resign(1, 2, 12);
        check.due("date and days are 0 without a paper", x.holder(1, 12), -1);
        x.paper(1, 3, 0, 1, 1, 1000);
        check.due("with a paper they are not", x.holder(1, 12), 1);
        PaperChancery y = Check.house(2, 1);
        y.seat(0, 0);
        Check.reign(y, 0, "bar days>0;");
        y.resign(0, 1, 20000);
        check.due("days are 0 at a late time, too", y.holder(0, 20000), 1);
        PaperChancery z = Check.house(2, 1);
        z.seat(0, 0);
        Check.reign(z, 0, "bar posts<1;bar worth=99;");
        z.paper(0, 2, 0, 1, 1, 1000);
        z.resign(0, 1, 3);
        check.due("nobody may hold a first post", z.holder(0, 3), -1);
        check.due("the paper waits", z.paperOf(0, 2), 1);
    }

    private static void swaps() {
        PaperChancery x = Check.house(3, 3);
        x.seat(0, 0);
        x.seat(1, 1);
        x.swap(0, 1, 5);
        x.swap(1, 2, 6);
        check.due("0 of the swapped", x.holder(0, 6), 1);
        check.due("1 of the swapped", x.holder(1, 6), 0);
        check.due("not with a free one", x.holder(2, 6), -1);
        check.due("ahead of it", x.holder(0, 4), 0);
        x.resign(0, 0, 7);
        x.swap(0, 1, 8);
        check.due("with oneself", x.holder(0, 8), 0);
        check.due("two posts", x.posts(0, 8), 2);
    }

    private static void barsInTheCourse() {
        PaperChancery x = new PaperChancery();
        x.person(3, 4, 0);
        x.person(5, 6, 1);
        x.post(0, 100);
        x.post(1, 200);
        Check.reign(x, 0, "bar degree=3 and diocese=1;");
        x.paper(0, 5, 0, 3, 1, 1000);
        check.due("barred from the greater", x.holder(1, 9), -1);
        check.due("used for the lesser", x.holder(0, 9), 0);
        x.paper(1, 6, 0, 3, 1, 1000);
        check.due("another is not barred", x.holder(1, 9), 1);
        x.paper(0, 7, 0, 3, 1, 1000);
        x.death(1, 20);
        check.due("not for one that is barred", x.holder(1, 30), -1);
        Check.reign(x, 20, "bar rank=6;");
        check.due("the new reign bars not", x.holder(1, 30), 0);
        check.due("since its time", x.paperOf(2, 1), 13);
        Check.reign(x, 20, "bar posts=1;");
        check.due("the one told last bars", x.holder(1, 30), -1);
        Check.reign(x, 19, "");
        check.due("an older one changes nothing", x.holder(1, 30), -1);
        Check.reign(x, 21, "");
        check.due("nor does a later one", x.holder(1, 30), -1);
    }

    private static void aheadInTheCourse() {
        PaperChancery x = new PaperChancery();
        x.person(1, 1, 1);
        x.person(2, 2, 0);
        x.person(3, 3, 1);
        x.person(0, 0, 1);
        x.post(1, 100);
        x.seat(0, 3);
        x.paper(0, 5, 2, 2, 1, 1000);
        x.paper(1, 4, 1, 2, 1, 1000);
        x.paper(2, 3, 3, 2, 1, 1000);
        x.death(3, 5000);
        check.due("by numbers", x.holder(0, 5000), 0);
        int[] winner = {1, 0, 1, 2, 2, 2, 0};
        String[] texts = {"low degree if diocese=0;with c;high worth;low rank if worth<100;with a;low degree;high degree;",
            "with b;low degree;", "with a;low degree;", "home;high degree;", "high rank;", "low date;", "high date;"};
        for (int i = 0; i < texts.length; i++) {
            PaperChancery y = new PaperChancery();
            y.person(1, 1, 1);
            y.person(2, 2, 0);
            y.person(3, 3, 1);
            y.person(0, 0, 1);
            y.post(1, 100);
            y.seat(0, 3);
            check.due("sound: " + texts[i], Check.reign(y, 5000, texts[i]) > 0, true);
            y.paper(0, 5, 2, 2, 1, 1000);
            y.paper(1, 4, 1, 2, 1, 1000);
            y.paper(2, 3, 3, 2, 1, 1000);
            y.death(3, 5000);
            check.due("by " + texts[i], y.holder(0, 5000), winner[i]);
        }
    }

    private static void aFreePostWaits() {
        PaperChancery x = Check.house(3, 2);
        x.seat(0, 0);
        x.seat(1, 1);
        Check.reign(x, 0, "bar posts>0;");
        x.paper(1, 5, 0, 1, 1, 1000);
        x.death(0, 10);
        check.due("barred when it became free", x.holder(0, 10), -1);
        x.resign(1, 2, 11);
        check.due("free still, though none is barred", x.holder(0, 12), -1);
        check.due("the paper is live", x.paperOf(0, 2), 1);
        x.paper(1, 13, 0, 1, 1, 1000);
        check.due("a new paper takes it", x.paperOf(1, 0), 0);
        check.due("the old one waits", x.paperOf(0, 2), 1);
    }

    private static void due() {
        PaperChancery x = Check.house(2, 0);
        x.post(0, 1000);
        x.post(0, 1);
        x.seat(0, 0);
        check.due("due(0, 0)", x.due(0, 0), 0);
        check.due("due(0, 1)", x.due(0, 1), 0);
        check.due("due(0, 2)", x.due(0, 2), 1);
        check.due("due(0, 9999999)", x.due(0, 9999999), 6944443);
        x.seat(1, 0);
        check.due("both added up, then floored", x.due(0, 1439), 1439L * 1001 / 1440);
        x.swap(0, 1, 700);
        x.resign(0, 1, 1000);
        check.due("due(1, 1000)", x.due(1, 1000), 0);
        check.due("due(1, 2440)", x.due(1, 2440), 1000);
        check.due("due(0, 2440)", x.due(0, 2440), (1000L * 1000 + 2440) / 1440);
        check.due("due(0, 1000)", x.due(0, 1000), (1000L * 1000 + 1000) / 1440);
        PaperChancery y = Check.house(1, 0);
        for (int i = 0; i < 16; i++) {
            y.post(7, 1000);
            y.seat(i, 0);
        }
        check.due("the greatest due", y.due(0, 9999999), 111111100L);
    }

    private static void papersOf() {
        PaperChancery x = Check.house(3, 1);
        x.seat(0, 2);
        x.paper(0, 100, 0, 1, 1, 1000);
        x.death(2, 350);
        x.paper(1, 400, 0, 1, 1, 1000);
        check.due("the post", x.paperOf(0, 0), 0);
        check.due("the minutes", x.paperOf(0, 1), 250);
        check.due("not live", x.paperOf(0, 2), 0);
        check.due("its news", x.paperOf(0, 3), 1);
        check.due("no post", x.paperOf(1, 0), -1);
        check.due("no minutes", x.paperOf(1, 1), -1);
        check.due("live", x.paperOf(1, 2), 1);
        x.as(2);
        check.due("known", x.paperOf(0, 3), 1);
        check.due("not known yet", x.paperOf(1, 3), -2);
        x.as(1);
        check.due("not used yet", x.paperOf(0, 0), -1);
        check.due("live yet", x.paperOf(0, 2), 1);
    }
}
