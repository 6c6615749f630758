/** Promises 15 to 18 with Terms III (what is in force) and IV: a test of its own for each sentence that names an edge. */
public final class CourseEdgesTest {
    private static final Check check = new Check();

    public static void main(String[] args) {
        holderAtATime();
        noSuchHolder();
        papersAtTheEnd();
        noSuchPaper();
        voidIsKnown();
        postsAtATime();
        noSuchPosts();
        dueAtATime();
        noSuchDue();
        oneTimeByNumber();
        liveFromTheDateOn();
        liveUntilUsedOrDead();
        aFreePostStaysFree();
        greatestWorthLeastNumber();
        whatTheDeadHeld();
        resignations();
        swaps();
        aSecondDeath();
        inForce();
        barredByAllTests();
        aheadByTheFirstKey();
        subjects();
        daysFromTheDateOn();
        withoutAPaper();
        check.finish();
    }

    private static void holderAtATime() {
        check.sentence("15: Who holds a POST behind all NEWS up to a TIME");
        for (int time : new int[] {0, 1, 5000, Check.LAST_TIME}) {
            PaperChancery x = Check.seated(2);
            x.resign(0, 1, time);
            x.resign(1, 0, time);
            check.due("behind both news of " + time, x.holder(0, time) * 10 + x.holder(1, time), 10);
            check.due("at the end", x.holder(0, Check.LAST_TIME), 1);
            if (time > 0) {
                check.due("a minute ahead", x.holder(0, time - 1), 0);
                check.due("at 0", x.holder(0, 0), 0);
            }
        }
    }

    private static void noSuchHolder() {
        check.sentence("15: NONE if it is free, or there is none such");
        PaperChancery x = Check.seated(16);
        x.death(3, 7);
        check.due("free", x.holder(3, 7), -1);
        check.due("not free yet", x.holder(3, 6), 3);
        check.due("the first", x.holder(0, 0), 0);
        check.due("the last", x.holder(15, Check.LAST_TIME), 15);
        for (int post : new int[] {-1, 16, Integer.MIN_VALUE, Integer.MAX_VALUE}) {
            check.due("post " + post, x.holder(post, 5), -1);
        }
        for (int time : Check.NO_TIMES) {
            check.due("time " + time, x.holder(0, time), -1);
        }
        check.due("without posts", Check.house(1, 0).holder(0, 0), -1);
        check.due("never seated", Check.house(1, 1).holder(0, Check.LAST_TIME), -1);
    }

    private static void papersAtTheEnd() {
        check.sentence("16: 0 the POST for which it is USED (NONE: it is not), 1 how many minutes from its DATE till then (NONE), "
                + "2 whether it is LIVE (1, 0), 3 its NEWS");
        PaperChancery x = Check.seated(2);
        x.paper(1, 0, 0, 1, 1, 1000);
        paper(x, "waiting", 0, -1, -1, 1, 1);
        x.death(0, Check.LAST_TIME);
        paper(x, "used at the last time", 0, 0, Check.LAST_TIME, 0, 1);
        x.paper(1, Check.LAST_TIME, 0, 1, 1, 1000);
        paper(x, "waiting at the last time", 1, -1, -1, 1, 3);
        x.post(0, 7);
        paper(x, "used at once, the post being there from the beginning", 0, 2, 0, 0, 1);
        paper(x, "used at its date", 1, 0, 0, 0, 3);
        PaperChancery y = Check.house(2, 16);
        for (int i = 0; i < 15; i++) {
            y.seat(i, 0);
        }
        y.paper(1, 5, 0, 1, 1, 1000);
        paper(y, "used for the last post", 0, 15, 0, 0, 1);
        y.death(1, 6);
        paper(y, "used by one who is dead", 0, 15, 0, 0, 1);
        PaperChancery z = Check.seated(2);
        z.paper(1, 5, 0, 1, 1, 1000);
        z.death(1, 5);
        paper(z, "not used by one who is dead", 0, -1, -1, 0, 1);
    }

    private static void paper(PaperChancery x, String which, int paper, int post, int minutes, int live, int news) {
        check.due(which + ": its post", x.paperOf(paper, 0), post);
        check.due(which + ": its minutes", x.paperOf(paper, 1), minutes);
        check.due(which + ": live", x.paperOf(paper, 2), live);
        check.due(which + ": its news", x.paperOf(paper, 3), news);
    }

    private static void noSuchPaper() {
        check.sentence("16: -2 if there is none such (as known), or for others");
        PaperChancery x = Check.house(1, 0);
        for (int what = -1; what <= 4; what++) {
            check.due("without papers, what " + what, x.paperOf(0, what), -2);
        }
        for (int i = 0; i < 48; i++) {
            x.paper(0, i, 0, 1, 1, 1000);
        }
        check.due("the first", x.paperOf(0, 3), 1);
        check.due("the last", x.paperOf(47, 3), 48);
        for (int what : new int[] {-1, 4, Integer.MIN_VALUE, Integer.MAX_VALUE}) {
            check.due("what " + what, x.paperOf(0, what), -2);
            check.due("what " + what + " of none", x.paperOf(48, what), -2);
        }
        for (int what = 0; what <= 3; what++) {
            for (int paper : new int[] {-1, 48, Integer.MIN_VALUE, Integer.MAX_VALUE}) {
                check.due("paper " + paper + ", what " + what, x.paperOf(paper, what), -2);
            }
        }
        for (int known : new int[] {0, 1, 47, 48}) {
            x.as(known);
            check.due("known at " + known, x.paperOf(known - 1, 2), known == 0 ? -2 : 1);
            check.due("not known at " + known, x.paperOf(known, 2), -2);
        }
    }

    private static void voidIsKnown() {
        check.sentence("16: none such (as known): one that is VOID is one; IV: PAPERS that are VOID are left out");
        PaperChancery x = Check.house(1, 1);
        x.paper(0, 5, 0, 1, 1, 1000);
        x.disprove(0);
        paper(x, "void", 0, -1, -1, 0, 1);
        check.due("the post is free", x.holder(0, 9), -1);
        x.as(1);
        paper(x, "not void as known at 1", 0, 0, 0, 0, 1);
        x.as(0);
        paper(x, "not known", 0, -2, -2, -2, -2);
    }

    private static void postsAtATime() {
        check.sentence("17: How many POSTS a PERSON holds behind all NEWS up to a TIME");
        PaperChancery x = Check.house(2, 16);
        for (int i = 0; i < 16; i++) {
            check.due("posts, " + i + " seated", x.posts(0, 0), i);
            x.seat(i, 0);
        }
        check.due("all posts", x.posts(0, Check.LAST_TIME), 16);
        check.due("no posts", x.posts(1, Check.LAST_TIME), 0);
        for (int i = 0; i < 16; i++) {
            x.resign(i, 1, 100 + i);
        }
        for (int i = 0; i <= 16; i++) {
            check.due("left at " + (99 + i), x.posts(0, 99 + i), 16 - i);
            check.due("taken at " + (99 + i), x.posts(1, 99 + i), i);
        }
        x.death(1, Check.LAST_TIME);
        check.due("the dead hold none", x.posts(1, Check.LAST_TIME), 0);
        check.due("a minute ahead", x.posts(1, Check.LAST_TIME - 1), 16);
    }

    private static void noSuchPosts() {
        check.sentence("17: NONE if there is none such");
        PaperChancery x = Check.house(24, 1);
        check.due("the first", x.posts(0, 0), 0);
        check.due("the last", x.posts(23, Check.LAST_TIME), 0);
        for (int person : new int[] {-1, 24, Integer.MIN_VALUE, Integer.MAX_VALUE}) {
            check.due("person " + person, x.posts(person, 0), -1);
        }
        for (int time : Check.NO_TIMES) {
            check.due("time " + time, x.posts(0, time), -1);
        }
        check.due("without persons", Check.house(0, 1).posts(0, 0), -1);
    }

    private static void dueAtATime() {
        check.sentence("IV: DUE: for each POST held up to it WORTH times minutes, added up, over 1440, floored");
        PaperChancery x = Check.house(2, 0);
        x.post(0, 1);
        x.post(0, 1);
        x.seat(0, 0);
        int[] times = {0, 1, 1439, 1440, 2879, 2880};
        int[] dues = {0, 0, 0, 1, 1, 2};
        for (int i = 0; i < times.length; i++) {
            check.due("due(0, " + times[i] + ")", x.due(0, times[i]), dues[i]);
        }
        check.due("at last", x.due(0, Check.LAST_TIME), 6944);
        x.seat(1, 0);
        check.due("two, added up first: 1438", x.due(0, 719), 0);
        check.due("two, added up first: 1440", x.due(0, 720), 1);
        check.due("two, each 1439", x.due(0, 1439), 1);
        x.resign(0, 1, 1440);
        x.resign(0, 0, 2880);
        check.due("the minute of a change is the next one's", x.due(1, 1440), 0);
        check.due("held from 1440 to 2880", x.due(1, 2879), 0);
        check.due("held from 1440 to 2880, whole", x.due(1, 2880), 1);
        check.due("and not beyond", x.due(1, Check.LAST_TIME), 1);
        check.due("twice held", x.due(0, 2880), 3);
        PaperChancery y = Check.house(1, 0);
        for (int i = 0; i < 16; i++) {
            y.post(0, 1000);
            y.seat(i, 0);
        }
        check.due("the greatest of all", y.due(0, Check.LAST_TIME), 16L * 1000 * Check.LAST_TIME / 1440);
        y.death(0, Check.LAST_TIME);
        check.due("of one who is dead", y.due(0, Check.LAST_TIME), 16L * 1000 * Check.LAST_TIME / 1440);
        PaperChancery z = Check.house(1, 0);
        z.post(0, 1000);
        z.seat(0, 0);
        z.death(0, 0);
        check.due("dead at 0", z.due(0, Check.LAST_TIME), 0);
    }

    private static void noSuchDue() {
        check.sentence("18: -1 if there is none such");
        PaperChancery x = Check.house(24, 1);
        x.seat(0, 23);
        check.due("the first", x.due(0, Check.LAST_TIME), 0);
        check.due("the last", x.due(23, 1440), 100);
        for (int person : new int[] {-1, 24, Integer.MIN_VALUE, Integer.MAX_VALUE}) {
            check.due("person " + person, x.due(person, 1440), -1);
        }
        for (int time : Check.NO_TIMES) {
            check.due("time " + time, x.due(23, time), -1);
        }
        check.due("without persons", Check.house(0, 1).due(0, 0), -1);
    }

    private static void oneTimeByNumber() {
        check.sentence("IV: in order of TIME, of one TIME by number");
        PaperChancery x = Check.house(4, 1);
        x.seat(0, 0);
        x.resign(0, 1, 50);
        x.resign(0, 2, 50);
        check.due("of one time the last number", x.holder(0, 50), 2);
        x.resign(0, 3, 49);
        check.due("the lesser time first", x.holder(0, 50), 2);
        check.due("then", x.holder(0, 49), 3);
        x.resign(0, 3, 51);
        x.resign(0, 0, 50);
        check.due("a late one of the same time", x.holder(0, 50), 0);
        check.due("the greater time last", x.holder(0, 51), 3);
    }

    private static void liveFromTheDateOn() {
        check.sentence("IV: A PAPER is LIVE from its DATE on, if its PERSON did not die ahead of that");
        PaperChancery x = Check.seated(2);
        x.paper(1, 100, 0, 1, 1, 1000);
        check.due("a minute ahead", x.claims(0, 99), 0);
        check.due("at its date", x.claims(0, 100), 1);
        x.death(1, 101);
        check.due("died behind it", x.claims(0, 100), 1);
        check.due("dead", x.claims(0, 101), 0);
        PaperChancery y = Check.seated(2);
        y.death(1, 99);
        y.paper(1, 100, 0, 1, 1, 1000);
        check.due("died a minute ahead", y.claims(0, 100), 0);
        PaperChancery z = Check.seated(2);
        z.paper(1, 100, 0, 1, 1, 1000);
        z.death(1, 100);
        z.paper(1, 100, 0, 1, 1, 1000);
        check.due("died at the same time", z.claims(0, 100), 0);
        check.due("live at neither news", z.paperOf(0, 2) + z.paperOf(1, 2), 0);
        z.as(1);
        check.due("as known ahead of the death", z.claims(0, 100), 1);
        PaperChancery w = Check.house(1, 1);
        w.paper(0, 100, 0, 1, 1, 1000);
        w.death(0, 100);
        check.due("its news first: used, then dead", w.paperOf(0, 0), 0);
        PaperChancery v = Check.house(1, 1);
        v.death(0, 100);
        v.paper(0, 100, 0, 1, 1, 1000);
        check.due("the death's news first: not used", v.paperOf(0, 0), -1);
    }

    private static void liveUntilUsedOrDead() {
        check.sentence("IV: until it is USED, or its PERSON dies");
        PaperChancery x = Check.seated(3);
        x.paper(2, 5, 0, 1, 1, 1000);
        x.death(0, 10);
        x.death(1, 20);
        check.due("used for the first", x.holder(0, 20), 2);
        check.due("not for the second", x.holder(1, 20), -1);
        check.due("claims a minute ahead", x.claims(1, 9), 1);
        check.due("claims then", x.claims(1, 10), 0);
        x.resign(0, 2, 30);
        check.due("not live again", x.paperOf(0, 2), 0);
        PaperChancery y = Check.seated(3);
        y.paper(2, 5, 0, 1, 1, 1000);
        y.death(2, 9);
        y.death(0, 10);
        check.due("its person died", y.holder(0, 10), -1);
    }

    private static void aFreePostStaysFree() {
        check.sentence("IV: When a POST becomes free ..: without one it stays free");
        PaperChancery x = Check.seated(2);
        x.death(0, 10);
        check.due("without papers", x.holder(0, Check.LAST_TIME), -1);
        check.due("free", x.all(5), 1);
        x.paper(1, 11, 0, 2, 1, 1000);
        check.due("a paper that does not reach it", x.holder(0, Check.LAST_TIME), -1);
        x.paper(1, Check.LAST_TIME, 0, 1, 1, 1000);
        check.due("a paper that does", x.holder(0, Check.LAST_TIME), 1);
        check.due("a minute ahead", x.holder(0, Check.LAST_TIME - 1), -1);
        check.due("none is free", x.all(5), 0);
    }

    private static void greatestWorthLeastNumber() {
        check.sentence("IV: USED for that of the greatest WORTH (of several the least number)");
        int[][] worths = {{5, 5, 5}, {5, 6, 6}, {6, 5, 6}, {1, 2, 1000}, {1000, 999, 1}, {5, 7, 6}};
        int[] posts = {0, 1, 0, 2, 0, 1};
        for (int i = 0; i < worths.length; i++) {
            PaperChancery x = Check.house(1, 0);
            for (int worth : worths[i]) {
                x.post(0, worth);
            }
            x.paper(0, 5, 0, 1, 1, 1000);
            check.due("row " + i, x.paperOf(0, 0), posts[i]);
        }
        PaperChancery x = Check.house(1, 0);
        x.post(0, 5);
        x.post(0, 8);
        x.post(1, 9);
        x.post(0, 7);
        Check.reign(x, 0, "bar worth=8;");
        x.paper(0, 5, 0, 1, 1, 1000);
        check.due("of those that it reaches and is not barred from", x.paperOf(0, 0), 3);
    }

    private static void whatTheDeadHeld() {
        check.sentence("IV: DEATH: the PERSON is dead, what they hold becomes free, by numbers");
        PaperChancery x = Check.house(4, 16);
        for (int i = 0; i < 16; i++) {
            x.seat(i, 0);
        }
        x.paper(3, 5, 0, 1, 1, 1000);
        x.paper(1, 5, 0, 1, 1, 1000);
        x.paper(2, 5, 0, 1, 1, 1000);
        x.death(0, 6);
        check.due("post 0", x.holder(0, 6), 3);
        check.due("post 1", x.holder(1, 6), 1);
        check.due("post 2", x.holder(2, 6), 2);
        check.due("post 15", x.holder(15, 6), -1);
        check.due("free", x.all(5), 13);
        PaperChancery y = Check.seated(2);
        y.paper(0, 5, 0, 1, 1, 1000);
        y.death(0, 6);
        check.due("their own papers get none", y.holder(0, 6), -1);
        PaperChancery z = Check.seated(2);
        z.person(0, 0, 0);
        check.due("of one who holds none", z.death(2, 6), 1);
        check.due("nothing is free", z.all(5), 0);
        z.resign(0, 2, 6);
        check.due("but they are dead", z.holder(0, 6), -1);
    }

    private static void resignations() {
        check.sentence("IV: RESIGNATION: if the POST has a holder, and the one in whose favour it is is not dead, nor BARRED");
        PaperChancery x = Check.seated(3);
        x.resign(0, 1, 10);
        x.death(1, 10);
        check.due("dead at the same time, behind it", x.holder(0, 10), -1);
        check.due("ahead of that", x.holder(0, 9), 0);
        PaperChancery y = Check.seated(3);
        y.death(1, 10);
        y.resign(0, 1, 10);
        y.paper(2, 9, 0, 1, 1, 1000);
        check.due("dead ahead of it: the paper's post is 1", y.holder(1, 10), 2);
        check.due("dead ahead of it: it becomes free", y.holder(0, 10), -1);
        y.paper(2, 9, 0, 1, 1, 1000);
        check.due("and a second paper is used for it", y.holder(0, 10), 2);
        PaperChancery u = Check.house(2, 1);
        u.seat(0, 0);
        u.death(1, 5);
        u.paper(0, 3, 0, 1, 1, 1000);
        u.resign(0, 1, 10);
        check.due("that of the one who resigns it, too", u.paperOf(0, 1), 7);
        check.due("who holds it again", u.holder(0, 10), 0);
        PaperChancery z = Check.house(2, 1);
        z.resign(0, 1, 10);
        check.due("without a holder nothing happens", z.holder(0, 10), -1);
        z.paper(0, 10, 0, 1, 1, 1000);
        check.due("the paper behind it", z.holder(0, 10), 0);
        z.resign(0, 1, 10);
        check.due("with a holder", z.holder(0, 10), 1);
        PaperChancery w = Check.seated(2);
        Check.reign(w, 5, "bar posts=1;");
        Check.reign(w, 6, "bar posts=2;");
        w.resign(0, 1, 4);
        check.due("not barred ahead of the reign", w.holder(0, 4), 1);
        PaperChancery v = Check.seated(2);
        Check.reign(v, 5, "bar posts=1;");
        Check.reign(v, 6, "bar posts=2;");
        v.resign(0, 1, 5);
        v.resign(1, 1, 6);
        check.due("barred at 5: it becomes free", v.holder(0, 5), -1);
        check.due("in one's own favour", v.holder(1, 6), 1);
    }

    private static void swaps() {
        check.sentence("IV: SWAP: if both have holders, these change places");
        PaperChancery x = Check.seated(2);
        x.post(0, 5);
        x.post(0, 6);
        x.swap(0, 2, 5);
        x.swap(2, 1, 5);
        x.swap(2, 3, 5);
        check.due("one has none", x.holder(0, 5), 0);
        check.due("the other has none", x.holder(1, 5), 1);
        check.due("neither has one", x.all(5), 2);
        x.swap(1, 0, 6);
        check.due("both have", x.holder(0, 6) * 10 + x.holder(1, 6), 10);
        check.due("a minute ahead", x.holder(0, 5) * 10 + x.holder(1, 5), 1);
        Check.reign(x, 0, "bar worth>0;");
        check.due("bars do not matter", x.holder(0, 6), 1);
    }

    private static void aSecondDeath() {
        check.sentence("IV: A second DEATH of one PERSON changes nothing");
        PaperChancery x = Check.seated(2);
        x.death(0, 10);
        x.paper(1, 10, 0, 1, 1, 1000);
        x.death(0, 10);
        x.death(0, 20);
        check.due("the post has a holder", x.holder(0, 20), 1);
        check.due("the first death counts", x.due(0, 20), 0);
        x.death(0, 5);
        check.due("an older one is the first", x.holder(0, 5), -1);
        check.due("then nothing more", x.holder(0, 20), 1);
    }

    /** Two papers, of which the first has clause a, the second clause b. */
    private static PaperChancery two() {
        PaperChancery x = Check.house(2, 1);
        x.paper(0, 0, 1, 0, 1, 1);
        x.paper(1, 0, 2, 0, 1, 1);
        return x;
    }

    private static void inForce() {
        check.sentence("III: the REIGN with the greatest TIME not above it, of several the one told last; without one there are none");
        PaperChancery x = two();
        check.due("none", x.by(0, Check.LAST_TIME, 0, 1), 100);
        Check.reign(x, 10, "with b;");
        check.due("above it", x.by(0, 9, 0, 1), 100);
        check.due("at it", x.by(0, 10, 0, 1), -1);
        Check.reign(x, 20, "with c;with a;");
        check.due("ahead of the second", x.by(0, 19, 0, 1), -1);
        check.due("the second", x.by(0, 20, 0, 1), 1);
        Check.reign(x, 10, "with c;with c;with b;");
        check.due("told last of 10", x.by(0, 19, 0, 1), -3);
        check.due("the greatest time is not the last told", x.by(0, 20, 0, 1), 1);
        Check.reign(x, 20, "");
        check.due("told last of 20, without rules", x.by(0, 20, 0, 1), 100);
        check.due("told last of 10 still", x.by(0, 19, 0, 1), -3);
        Check.reign(x, 0, "with a;");
        check.due("from 0 on", x.by(0, 0, 0, 1), 0);
        Check.reign(x, Check.LAST_TIME, "with b;");
        check.due("at the last time", x.by(0, Check.LAST_TIME, 0, 1), -1);
        check.due("a minute ahead", x.by(0, Check.LAST_TIME - 1, 0, 1), 100);
    }

    private static void barredByAllTests() {
        check.sentence("III: BARRED, if all TESTS of a bar in force hold");
        bar("bar worth=100;", true);
        bar("bar worth=99;", false);
        bar("bar worth=101;", false);
        bar("bar worth<100;", false);
        bar("bar worth<101;", true);
        bar("bar worth>100;", false);
        bar("bar worth>99;", true);
        bar("bar worth>0000000;", true);
        bar("bar worth<9999999;", true);
        bar("bar worth>9999999;", false);
        bar("bar worth<0;", false);
        bar("bar diocese=0;", true);
        bar("bar diocese>0;", false);
        bar("bar worth=100 and diocese=0;", true);
        bar("bar worth=100 and diocese=1;", false);
        bar("bar worth=99 and diocese=0;", false);
        bar("bar worth=100 and worth=100 and diocese=1;", false);
        bar("bar worth=99;bar worth=100;", true);
        bar("bar worth=99;bar diocese=1;", false);
        bar("home;with a;bar worth=100;", true);
        bar("home if worth=100;", false);
        bar("bar worth=99;".repeat(15) + "bar worth=100;", true);
        bar("bar worth=99;".repeat(16), false);
        bar("", false);
    }

    private static void bar(String text, boolean barred) {
        PaperChancery x = Check.house(1, 1);
        Check.reign(x, 0, text);
        x.paper(0, 5, 0, 1, 1, 1000);
        check.due("the post by " + text, x.holder(0, 5), barred ? -1 : 0);
        PaperChancery y = Check.house(2, 1);
        y.seat(0, 0);
        Check.reign(y, 0, text);
        y.paper(1, 5, 0, 1, 1, 1000);
        check.due("claims by " + text, y.claims(0, 5), barred ? 0 : 1);
        y.death(0, 6);
        check.due("freed by " + text, y.holder(0, 6), barred ? -1 : 1);
    }

    private static void aheadByTheFirstKey() {
        check.sentence("III: by the first KEY in force by which they differ (whose TESTS, if it has some, all hold); "
                + "if there is none, the one with the lesser number");
        ahead("", 100);
        ahead("with c;", 100);
        ahead("with b;with a;", -1);
        ahead("with c;with a;with b;", 1);
        ahead("with a if worth=100;", 0);
        ahead("with a if worth=99;", 100);
        ahead("with a if worth=101;with b;", -2);
        ahead("with a if worth=100 and diocese=0;", 0);
        ahead("with a if worth=100 and diocese=1;", 100);
        ahead("with a if worth=99 and diocese=0;", 100);
        ahead("with a if worth>99 and worth<101 and diocese<1;", 0);
        ahead("bar worth=100;with b;", -2);
        ahead("high worth;low worth;high diocese;low diocese;home;", 100);
        ahead("with c;".repeat(15) + "with a;", 15);
        ahead("with c;".repeat(15) + "with b;", -16);
        ahead("with c;".repeat(16), 100);
    }

    private static void ahead(String text, int rule) {
        PaperChancery x = two();
        Check.reign(x, 0, text);
        int turned = rule == 100 ? -101 : -rule - 1;
        check.due("by " + text, x.by(0, 0, 0, 1), rule);
        check.due("turned, by " + text, x.by(0, 0, 1, 0), turned);
        int[] clauses = {1, 2};
        for (int first = 0; first < 2; first++) {
            PaperChancery y = Check.house(3, 1);
            y.seat(0, 2);
            Check.reign(y, 5, text.replace("bar worth=100;", "bar worth=99;"));
            y.paper(first, 0, clauses[first], 1, 1, 1000);
            y.paper(1 - first, 0, clauses[1 - first], 1, 1, 1000);
            y.death(2, 5);
            check.due("who holds it, " + first + " coming first, by " + text, y.holder(0, 5),
                    rule == 100 ? first : rule >= 0 ? 0 : 1);
        }
    }

    private static void subjects() {
        check.sentence("III: SUBJECTS: worth, diocese (of the POST), degree, rank (of the PERSON), posts, date (of the PAPER)");
        String[] bars = {"worth=1000", "diocese=7", "degree=9", "rank=0", "posts=1", "date=9999999", "days=0"};
        String[] others = {"worth=999", "diocese=6", "degree=0", "rank=9", "posts=0", "date=9999998", "days=1"};
        for (int i = 0; i < bars.length; i++) {
            check.due("claims with bar " + bars[i], claimsAtTheEdge("bar " + bars[i] + ";"), 0);
            check.due("claims with bar " + others[i], claimsAtTheEdge("bar " + others[i] + ";"), 1);
        }
        PaperChancery x = Check.house(2, 16);
        for (int i = 1; i < 16; i++) {
            x.seat(i, 1);
        }
        x.seat(0, 0);
        Check.reign(x, 0, "bar posts>14;");
        Check.reign(x, 1, "bar posts>15;");
        x.paper(1, 0, 0, 1, 1, 1000);
        check.due("15 posts above 14", x.claims(0, 0), 0);
        check.due("15 posts not above 15", x.claims(0, 1), 1);
    }

    private static int claimsAtTheEdge(String text) {
        PaperChancery x = new PaperChancery();
        x.person(9, 0, 3);
        x.person(4, 4, 4);
        x.post(7, 1000);
        x.post(7, 1000);
        x.seat(0, 1);
        x.seat(1, 0);
        Check.reign(x, 0, text);
        x.paper(0, Check.LAST_TIME, 0, 128, 1000, 1000);
        return x.claims(0, Check.LAST_TIME);
    }

    private static void daysFromTheDateOn() {
        check.sentence("III: days (whole days of 1440 minutes from the DATE on, 0 ahead of it)");
        PaperChancery x = Check.seated(2);
        Check.reign(x, 0, "bar days=1;");
        x.paper(1, 100, 0, 1, 1, 1000);
        check.due("at its date", x.claims(0, 100), 1);
        check.due("a minute short of a day", x.claims(0, 1539), 1);
        check.due("a day", x.claims(0, 1540), 0);
        check.due("a minute short of two", x.claims(0, 2979), 0);
        check.due("two days", x.claims(0, 2980), 1);
        PaperChancery y = Check.house(2, 1);
        y.paper(0, 3000, 0, 0, 1, 1);
        y.paper(1, 0, 0, 0, 1, 1);
        Check.reign(y, 0, "high days;");
        check.due("both 0", y.by(0, 1439, 0, 1), 100);
        check.due("0 ahead of its date", y.by(0, 1440, 0, 1), -1);
        Check.reign(y, 0, "low days;");
        check.due("not below 0 ahead of its date", y.by(0, 0, 0, 1), 100);
        PaperChancery z = Check.seated(2);
        Check.reign(z, 0, "bar days<6944;");
        z.paper(1, 0, 0, 1, 1, 1000);
        check.due("a minute short of the most days", z.claims(0, 6944 * 1440 - 1), 0);
        check.due("the most days", z.claims(0, 6944 * 1440), 1);
        check.due("at last", z.claims(0, Check.LAST_TIME), 1);
    }

    private static void withoutAPaper() {
        check.sentence("III: without a PAPER date and days are 0");
        favoured("bar date=0;", false);
        favoured("bar date>0;", true);
        favoured("bar days=0;", false);
        favoured("bar days>0;", true);
        favoured("bar date=0 and days=0 and posts=1;", false);
        favoured("bar date=0 and days=0 and posts=0;", true);
    }

    private static void favoured(String text, boolean holds) {
        PaperChancery x = Check.seated(2);
        Check.reign(x, 0, text);
        x.paper(1, 20000, 0, 0, 1, 1);
        x.resign(0, 1, Check.LAST_TIME);
        check.due("favoured by " + text, x.holder(0, Check.LAST_TIME), holds ? 1 : -1);
    }
}
