/** Promises 19 to 23: a test of its own for each sentence that names an edge. */
public final class ClaimsEdgesTest {
    private static final Check check = new Check();

    public static void main(String[] args) {
        noneAndAllClaim();
        asIfItWereFree();
        noSuchClaims();
        claimsInOrder();
        noSuchClaim();
        ofTheLatestNotRefused();
        byTheFirstAndTheLastRule();
        byTheirNumbers();
        noSuchTwo();
        voidOnesAndOnesNotLive();
        theLeastNews();
        upToThatAsKnown();
        noSuchPostSince();
        allAtTheEdges();
        noOtherAll();
        check.finish();
    }

    /** So many papers of two persons who hold nothing, all for the one post that a third one holds. */
    private static PaperChancery waiting(int papers) {
        PaperChancery x = Check.house(3, 1);
        x.seat(0, 2);
        for (int i = 0; i < papers; i++) {
            x.paper(i % 2, 10 + i, 0, 1, 1, 1000);
        }
        return x;
    }

    private static void noneAndAllClaim() {
        check.sentence("19: how many LIVE PAPERS REACH it whose PERSONS are not BARRED");
        check.due("without papers", waiting(0).claims(0, Check.LAST_TIME), 0);
        PaperChancery x = waiting(48);
        for (int i = 0; i <= 48; i++) {
            check.due("claims(0, " + (9 + i) + ")", x.claims(0, 9 + i), i);
        }
        check.due("at 0", x.claims(0, 0), 0);
        check.due("at last", x.claims(0, Check.LAST_TIME), 48);
        x.death(1, 100);
        check.due("the dead do not", x.claims(0, 100), 24);
        Check.reign(x, 50, "bar date<12;");
        check.due("the barred do not", x.claims(0, 99), 46);
        check.due("as known at none", x.as(0), true);
        check.due("the unknown do not", x.claims(0, 99), 0);
    }

    private static void asIfItWereFree() {
        check.sentence("19: as if it were free behind all NEWS up to a TIME (its holder holding it not)");
        PaperChancery x = Check.seated(2);
        x.paper(0, 5, 0, 1, 1, 1000);
        x.paper(1, 5, 0, 1, 1, 1000);
        Check.reign(x, 0, "bar posts>0;");
        check.due("its holder claims", x.claims(0, 5), 1);
        check.due("the paper", x.claim(0), 0);
        check.due("the other's holder claims", x.claims(1, 5), 1);
        check.due("the paper", x.claim(0), 1);
        check.due("who hold them as before", x.holder(0, 5) * 10 + x.holder(1, 5), 1);
        check.due("one each", x.posts(0, 5) * 10 + x.posts(1, 5), 11);
        check.due("due as before", x.due(0, 1440), 100);
        Check.reign(x, 6, "high posts;");
        check.due("by, its holder holding it not", x.by(0, 6, 0, 1), -1);
        check.due("by, at the other", x.by(1, 6, 0, 1), 0);
        check.due("one each still", x.posts(0, 6) * 10 + x.posts(1, 6), 11);
        PaperChancery y = Check.house(2, 1);
        y.paper(0, 5, 0, 1, 1, 1000);
        y.paper(1, 6, 0, 1, 1, 1000);
        check.due("one that is used does not claim", y.claims(0, 6), 1);
        check.due("the one that waits", y.claim(0), 1);
        check.due("a free post ahead of all news", y.claims(0, 4), 0);
    }

    private static void noSuchClaims() {
        check.sentence("19: NONE if there is none such");
        PaperChancery x = Check.house(1, 16);
        check.due("the first", x.claims(0, 0), 0);
        check.due("the last", x.claims(15, Check.LAST_TIME), 0);
        for (int post : new int[] {-1, 16, Integer.MIN_VALUE, Integer.MAX_VALUE}) {
            check.due("post " + post, x.claims(post, 0), -1);
        }
        for (int time : Check.NO_TIMES) {
            check.due("time " + time, x.claims(0, time), -1);
        }
        check.due("without posts", Check.house(1, 0).claims(0, 0), -1);
    }

    private static void claimsInOrder() {
        check.sentence("20: CLAIM k, the one AHEAD of all first");
        PaperChancery x = waiting(48);
        check.due("by numbers", x.claims(0, 100), 48);
        for (int k = 0; k < 48; k++) {
            check.due("by numbers, claim(" + k + ")", x.claim(k), k);
        }
        Check.reign(x, 0, "high date;");
        check.due("turned", x.claims(0, 100), 48);
        for (int k = 0; k < 48; k++) {
            check.due("turned, claim(" + k + ")", x.claim(k), 47 - k);
        }
    }

    private static void noSuchClaim() {
        check.sentence("20: NONE if there is none such");
        int[] wrong = {-1, 48, 49, Integer.MIN_VALUE, Integer.MAX_VALUE};
        for (int count : new int[] {0, 1, 47, 48}) {
            PaperChancery x = waiting(count);
            check.due("ahead of any claims()", x.claim(0), -1);
            check.due("claims", x.claims(0, 100), count);
            check.due("the first of " + count, x.claim(0), count == 0 ? -1 : 0);
            check.due("the last of " + count, x.claim(count - 1), count - 1);
            check.due("behind the last of " + count, x.claim(count), -1);
            for (int k : wrong) {
                check.due("claim(" + k + ") of " + count, x.claim(k), -1);
            }
        }
    }

    private static void ofTheLatestNotRefused() {
        check.sentence("20: of the latest claims() that was not refused");
        PaperChancery x = waiting(3);
        x.claims(0, 11);
        for (int post : new int[] {-1, 1}) {
            check.due("refused", x.claims(post, 12), -1);
            check.due("claim(0)", x.claim(0), 0);
            check.due("claim(1)", x.claim(1), 1);
            check.due("claim(2)", x.claim(2), -1);
        }
        for (int time : Check.NO_TIMES) {
            check.due("refused", x.claims(0, time), -1);
            check.due("claim(1) behind it", x.claim(1), 1);
            check.due("claim(2) behind it", x.claim(2), -1);
        }
        x.disprove(0);
        x.as(0);
        Check.reign(x, 0, "high date;");
        x.post(1, 5);
        check.due("what was told stays", x.claim(1), 1);
        check.due("none claim", x.claims(0, 12), 0);
        check.due("the latest has none", x.claim(0), -1);
        x.as(-1);
        check.due("two claim", x.claims(0, 12), 2);
        check.due("the latest", x.claim(0), 2);
        PaperChancery y = waiting(3);
        check.due("refused, none ahead of it", y.claims(1, 12), -1);
        check.due("no claim", y.claim(0), -1);
    }

    private static void byTheFirstAndTheLastRule() {
        check.sentence("21: By which RULE in force (from 0 on) PAPER a is AHEAD of PAPER b (minus that, minus 1: b of a)");
        for (int rule = 0; rule < 16; rule++) {
            PaperChancery x = waiting(2);
            Check.reign(x, 0, "home;".repeat(rule) + "low date;" + "home;".repeat(15 - rule));
            check.due("rule " + rule, x.by(0, 5, 0, 1), rule);
            check.due("rule " + rule + " turned", x.by(0, 5, 1, 0), -rule - 1);
        }
        PaperChancery y = waiting(48);
        Check.reign(y, 0, "bar worth=100;high date;");
        check.due("bars count among the rules", y.by(0, 5, 0, 47), -2);
        check.due("the first and the last paper turned", y.by(0, 5, 47, 0), 1);
    }

    private static void byTheirNumbers() {
        check.sentence("21: 100, -101 by their numbers");
        PaperChancery x = waiting(48);
        check.due("without rules", x.by(0, 0, 0, 1), 100);
        check.due("without rules, turned", x.by(0, 0, 1, 0), -101);
        check.due("the first and the last", x.by(0, 0, 0, 47), 100);
        check.due("the last and the first", x.by(0, 0, 47, 0), -101);
        Check.reign(x, 0, "home;high worth;bar worth=100;");
        check.due("with rules by which they do not differ", x.by(0, 0, 46, 47), 100);
        check.due("turned", x.by(0, 0, 47, 46), -101);
    }

    private static void noSuchTwo() {
        check.sentence("21: -1000 if there are no such two (unlike ones that are known), POST, TIME");
        PaperChancery x = waiting(48);
        for (int paper : new int[] {-1, 48, Integer.MIN_VALUE, Integer.MAX_VALUE}) {
            check.due("a " + paper, x.by(0, 5, paper, 1), -1000);
            check.due("b " + paper, x.by(0, 5, 1, paper), -1000);
            check.due("both " + paper, x.by(0, 5, paper, paper), -1000);
        }
        for (int paper : new int[] {0, 1, 47}) {
            check.due("alike " + paper, x.by(0, 5, paper, paper), -1000);
        }
        for (int post : new int[] {-1, 1, 16, Integer.MIN_VALUE, Integer.MAX_VALUE}) {
            check.due("post " + post, x.by(post, 5, 0, 1), -1000);
        }
        for (int time : Check.NO_TIMES) {
            check.due("time " + time, x.by(0, time, 0, 1), -1000);
        }
        check.due("at 0", x.by(0, 0, 0, 1), 100);
        check.due("at last", x.by(0, Check.LAST_TIME, 0, 1), 100);
        x.as(2);
        check.due("both are known", x.by(0, 5, 0, 1), 100);
        check.due("b is not", x.by(0, 5, 0, 2), -1000);
        check.due("a is not", x.by(0, 5, 2, 0), -1000);
        x.as(1);
        check.due("one is known alone", x.by(0, 5, 0, 1), -1000);
        x.as(0);
        check.due("neither is", x.by(0, 5, 0, 1), -1000);
        check.due("the last post of 16", sixteen().by(15, 5, 0, 1), 100);
        check.due("none behind it", sixteen().by(16, 5, 0, 1), -1000);
    }

    private static PaperChancery sixteen() {
        PaperChancery x = Check.house(1, 16);
        x.paper(0, 0, 0, 0, 1, 1);
        x.paper(0, 0, 0, 0, 1, 1);
        return x;
    }

    private static void voidOnesAndOnesNotLive() {
        check.sentence("21: VOID ones and ones that are not LIVE are asked of, too");
        PaperChancery x = waiting(3);
        Check.reign(x, 0, "high date;");
        check.due("ones whose dates are to come", x.by(0, 0, 0, 1), -1);
        x.disprove(0);
        check.due("a void one", x.by(0, 20, 0, 1), -1);
        check.due("a void one as b", x.by(0, 20, 1, 0), 0);
        x.disprove(1);
        check.due("two void ones", x.by(0, 20, 0, 1), -1);
        x.death(0, 1);
        check.due("one of the dead", x.by(0, 20, 2, 1), 0);
        PaperChancery y = Check.house(1, 2);
        y.paper(0, 5, 0, 1, 1, 1000);
        y.paper(0, 6, 0, 1, 1, 1000);
        Check.reign(y, 0, "bar worth>0;high date;");
        check.due("barred ones that do not claim", y.by(0, 9, 0, 1), -2);
        Check.reign(y, 0, "high date;");
        check.due("used ones", y.by(0, 9, 0, 1), -1);
        y.post(1, 5);
        check.due("at a post that they do not reach", y.by(2, 9, 0, 1), -1);
    }

    private static void theLeastNews() {
        check.sentence("22: The least NEWS n so that as known at each from n up to that .. a POST has the same holder at the end "
                + "(NONE being one, too)");
        PaperChancery x = Check.seated(3);
        check.due("without news", x.since(0), 0);
        x.resign(0, 1, 50);
        check.due("changed by the first", x.since(0), 1);
        check.due("another is not", x.since(1), 0);
        x.death(2, 50);
        check.due("not changed by the second", x.since(0), 1);
        check.due("free since the second", x.since(2), 2);
        x.resign(0, 0, 60);
        check.due("changed by the third", x.since(0), 3);
        x.resign(0, 2, 40);
        check.due("not changed at the end by the fourth", x.since(0), 3);
        x.resign(0, 1, 70);
        x.resign(0, 0, 80);
        check.due("there and back: since it came back", x.since(0), 6);
        check.due("free still since the second", x.since(2), 2);
        PaperChancery y = Check.house(1, 2);
        check.due("free without news", y.since(1), 0);
        y.death(0, 5);
        check.due("free all the time", y.since(1), 0);
        PaperChancery z = Check.seated(2);
        for (int i = 1; i <= 160; i++) {
            z.resign(0, i % 2, 1000 - i);
        }
        check.due("160 news of which the first is the last", z.since(0), 1);
        PaperChancery w = Check.seated(2);
        for (int i = 1; i <= 160; i++) {
            w.resign(0, i % 2, i);
        }
        check.due("160 news, each the last", w.since(0), 160);
        check.due("none of another", w.since(1), 0);
    }

    private static void upToThatAsKnown() {
        check.sentence("22: up to that as known at which all is told");
        PaperChancery x = Check.seated(3);
        x.resign(0, 1, 10);
        x.death(2, 10);
        x.resign(0, 0, 20);
        int[] first = {0, 1, 1, 3};
        int[] third = {0, 0, 2, 2};
        for (int known = 0; known <= 3; known++) {
            x.as(known);
            check.due("since(0) as known at " + known, x.since(0), first[known]);
            check.due("since(2) as known at " + known, x.since(2), third[known]);
            check.due("all(6) stays", x.all(6), known);
        }
        x.as(1);
        x.resign(0, 2, 30);
        check.due("later news do not matter", x.since(0), 1);
        x.as(-1);
        check.due("the last ones do", x.since(0), 4);
    }

    private static void noSuchPostSince() {
        check.sentence("22: NONE if there is no such POST");
        PaperChancery x = Check.seated(16);
        check.due("the first", x.since(0), 0);
        check.due("the last", x.since(15), 0);
        for (int post : new int[] {-1, 16, Integer.MIN_VALUE, Integer.MAX_VALUE}) {
            check.due("post " + post, x.since(post), -1);
        }
        check.due("without posts", Check.house(1, 0).since(0), -1);
    }

    private static void allAtTheEdges() {
        check.sentence("23: Of all: 0 PERSONS, 1 POSTS, 2 PAPERS, 3 NEWS, 4 REIGNS, 5 POSTS free at the end, 6 the NEWS as known");
        PaperChancery x = Check.house(24, 16);
        for (int i = 0; i < 16; i++) {
            x.seat(i, i);
        }
        all(x, "seated", 24, 16, 0, 0, 0, 0, 0);
        for (int i = 0; i < 6; i++) {
            x.reign(i);
        }
        for (int i = 0; i < 48; i++) {
            x.paper(23, 5, 0, 0, 1, 1);
        }
        for (int i = 0; i < 112; i++) {
            x.death(i % 16, i);
        }
        all(x, "full", 24, 16, 48, 160, 6, 16, 160);
        x.as(0);
        all(x, "full, as known at none", 24, 16, 48, 160, 6, 0, 0);
        x.as(49);
        all(x, "full, as known at the first death", 24, 16, 48, 160, 6, 1, 49);
        x.person(0, 0, 0);
        x.post(0, 1);
        x.paper(0, 0, 0, 0, 1, 1);
        x.reign(0);
        x.as(161);
        all(x, "full, behind refused calls", 24, 16, 48, 160, 6, 1, 49);
        all(new PaperChancery(), "new", 0, 0, 0, 0, 0, 0, 0);
        all(Check.house(1, 1), "one of each", 1, 1, 0, 0, 0, 1, 0);
        PaperChancery y = Check.house(1, 1);
        y.paper(0, Check.LAST_TIME, 0, 1, 1, 1000);
        all(y, "taken at the last time", 1, 1, 1, 1, 0, 0, 1);
        y.disprove(0);
        all(y, "void", 1, 1, 1, 2, 0, 1, 2);
    }

    private static void all(PaperChancery x, String which, int... want) {
        for (int what = 0; what <= 6; what++) {
            check.due(which + ": all(" + what + ")", x.all(what), want[what]);
        }
    }

    private static void noOtherAll() {
        check.sentence("23: NONE for others");
        for (int what : new int[] {-1, 7, 8, Integer.MIN_VALUE, Integer.MAX_VALUE}) {
            check.due("all(" + what + ")", Check.seated(3).all(what), -1);
            check.due("new: all(" + what + ")", new PaperChancery().all(what), -1);
        }
    }
}
