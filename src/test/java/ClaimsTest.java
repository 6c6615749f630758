/** Promises 19, 20, 21: claims, claim, by. */
public final class ClaimsTest {
    private static final Check check = new Check();

    public static void main(String[] args) {
        refusals();
        whoClaims();
        theHolderHoldsItNot();
        orderOfClaims();
        latestClaims();
        byEachKey();
        byWithTests();
        bySubjectsOfTheState();
        byOfOthers();
        check.finish();
    }

    private static void refusals() {
        PaperChancery x = Check.house(2, 1);
        x.paper(0, 5, 0, 0, 1, 1);
        x.paper(1, 5, 0, 0, 1, 1);
        check.due("claims(-1, 0)", x.claims(-1, 0), -1);
        check.due("claims(1, 0)", x.claims(1, 0), -1);
        check.due("claims(0, -1)", x.claims(0, -1), -1);
        check.due("claims(0, 10000000)", x.claims(0, 10000000), -1);
        check.due("claims(0, 9999999)", x.claims(0, 9999999), 0);
        check.due("by(-1, 0, 0, 1)", x.by(-1, 0, 0, 1), -1000);
        check.due("by(1, 0, 0, 1)", x.by(1, 0, 0, 1), -1000);
        check.due("by(0, -1, 0, 1)", x.by(0, -1, 0, 1), -1000);
        check.due("by(0, 10000000, 0, 1)", x.by(0, 10000000, 0, 1), -1000);
        check.due("by(0, 0, -1, 1)", x.by(0, 0, -1, 1), -1000);
        check.due("by(0, 0, 0, 2)", x.by(0, 0, 0, 2), -1000);
        check.due("by(0, 0, 1, 1)", x.by(0, 0, 1, 1), -1000);
        check.due("by(0, 0, 0, 1)", x.by(0, 0, 0, 1), 100);
        check.due("by(0, 9999999, 1, 0)", x.by(0, 9999999, 1, 0), -101);
        x.as(1);
        check.due("by of one not known", x.by(0, 0, 0, 1), -1000);
    }

    private static void whoClaims() {
        PaperChancery x = Check.house(4, 1);
        x.seat(0, 0);
        x.paper(1, 10, 0, 1, 1, 1000);
        x.paper(2, 20, 0, 2, 1, 1000);
        x.paper(3, 20, 0, 1, 101, 1000);
        x.paper(2, 30, 0, 1, 100, 100);
        check.due("ahead of all dates", x.claims(0, 9), 0);
        check.due("at the first date", x.claims(0, 10), 1);
        check.due("it", x.claim(0), 0);
        check.due("those that reach", x.claims(0, 30), 2);
        check.due("the second", x.claim(1), 3);
        check.due("no third", x.claim(2), -1);
        check.due("none below 0", x.claim(-1), -1);
        x.disprove(0);
        check.due("without the void one", x.claims(0, 30), 1);
        check.due("the other", x.claim(0), 3);
        x.death(0, 40);
        check.due("none when it is used", x.claims(0, 40), 0);
        check.due("ahead of the death", x.claims(0, 39), 1);
        x.death(2, 35);
        check.due("none when its person is dead", x.claims(0, 39), 0);
    }

    private static void theHolderHoldsItNot() {
        PaperChancery x = Check.house(2, 2);
        x.seat(0, 0);
        x.seat(1, 1);
        Check.reign(x, 0, "bar posts>0;");
        x.paper(0, 5, 0, 1, 1, 1000);
        x.paper(1, 5, 0, 1, 1, 1000);
        check.due("claims(0, 5)", x.claims(0, 5), 1);
        check.due("its holder", x.claim(0), 0);
        check.due("claims(1, 5)", x.claims(1, 5), 1);
        check.due("its holder", x.claim(0), 1);
        check.due("who holds it still", x.holder(1, 5), 1);
        check.due("and one post", x.posts(1, 5), 1);
        Check.reign(x, 6, "low posts;");
        check.due("by(0, 6, 0, 1)", x.by(0, 6, 0, 1), 0);
        check.due("by(1, 6, 0, 1)", x.by(1, 6, 0, 1), -1);
        check.due("posts behind that", x.posts(0, 6), 1);
    }

    private static void orderOfClaims() {
        PaperChancery x = new PaperChancery();
        x.person(0, 0, 0);
        x.post(0, 500);
        x.seat(0, 0);
        int[] degrees = {3, 1, 9, 3, 1};
        for (int degree : degrees) {
            x.person(degree, 0, 0);
        }
        for (int i = 1; i <= 5; i++) {
            x.paper(i, 10, i == 4 ? 1 : 0, 1, 1, 1000);
        }
        Check.reign(x, 100, "with a;low degree;");
        check.due("claims(0, 50)", x.claims(0, 50), 5);
        for (int i = 0; i < 5; i++) {
            check.due("by numbers: claim(" + i + ")", x.claim(i), i);
        }
        check.due("claims(0, 100)", x.claims(0, 100), 5);
        int[] order = {3, 1, 4, 0, 2};
        for (int i = 0; i < 5; i++) {
            check.due("by rules: claim(" + i + ")", x.claim(i), order[i]);
        }
        Check.reign(x, 100, "bar degree=1;high degree;");
        check.due("claims(0, 100) anew", x.claims(0, 100), 3);
        int[] anew = {2, 0, 3};
        for (int i = 0; i < 3; i++) {
            check.due("by the rules told last: claim(" + i + ")", x.claim(i), anew[i]);
        }
    }

    private static void latestClaims() {
        PaperChancery x = Check.house(3, 1);
        x.seat(0, 0);
        x.paper(1, 10, 0, 1, 1, 1000);
        x.paper(2, 10, 0, 1, 1, 1000);
        check.due("claims", x.claims(0, 10), 2);
        check.due("refused", x.claims(3, 10), -1);
        check.due("claim(1) of the one not refused", x.claim(1), 1);
        x.disprove(1);
        x.as(0);
        check.due("claim(1) still", x.claim(1), 1);
        check.due("claims as known at none", x.claims(0, 10), 0);
        check.due("no claim", x.claim(0), -1);
    }

    private static PaperChancery pair(String text) {
        PaperChancery x = new PaperChancery();
        x.person(2, 8, 3);
        x.person(4, 6, 1);
        x.post(1, 100);
        x.post(3, 200);
        check.due("sound: " + text, Check.reign(x, 0, text) > 0, true);
        x.paper(0, 1000, 4, 0, 1, 1);
        x.paper(1, 3000, 8, 0, 1, 1);
        return x;
    }

    private static void byEachKey() {
        String[] keys = {"with c", "with d", "with a", "home", "high degree", "low degree", "high rank", "low rank",
            "high date", "low date", "high days", "low days", "high worth", "low diocese", "high posts"};
        int[] ahead = {1, -1, 0, -1, -1, 1, 1, -1, -1, 1, 1, -1, 0, 0, 0};
        for (int i = 0; i < keys.length; i++) {
            PaperChancery x = pair("bar rank=1;" + keys[i] + ";");
            int want = ahead[i] > 0 ? 1 : ahead[i] < 0 ? -2 : 100;
            int turned = ahead[i] > 0 ? -2 : ahead[i] < 0 ? 1 : -101;
            check.due("by " + keys[i], x.by(0, 5000, 0, 1), want);
            check.due("by " + keys[i] + ", turned", x.by(0, 5000, 1, 0), turned);
        }
        check.due("home at the other post", pair("home;").by(1, 5000, 0, 1), 0);
        check.due("the 16th rule", pair("with a;".repeat(15) + "with c;").by(0, 0, 0, 1), 15);
        check.due("the 16th rule, turned", pair("with a;".repeat(15) + "with c;").by(0, 0, 1, 0), -16);
        check.due("the first that differs", pair("with a;high worth;low rank;with c;").by(0, 0, 0, 1), -3);
    }

    private static void byWithTests() {
        check.due("worth<100", pair("with c if worth<100;").by(0, 0, 0, 1), 100);
        check.due("worth<101", pair("with c if worth<101;").by(0, 0, 0, 1), 0);
        check.due("worth>100", pair("with c if worth>100;").by(0, 0, 0, 1), 100);
        check.due("worth>99", pair("with c if worth>99;").by(0, 0, 0, 1), 0);
        check.due("worth=100", pair("with c if worth=0000100;").by(0, 0, 0, 1), 0);
        check.due("worth=99", pair("with c if worth=99;").by(0, 0, 0, 1), 100);
        check.due("both hold", pair("with c if worth=100 and diocese=1;").by(0, 0, 0, 1), 0);
        check.due("one does not", pair("with c if worth=100 and diocese=2;").by(0, 0, 0, 1), 100);
        check.due("the other does not", pair("with c if worth=1 and diocese=1;").by(0, 0, 0, 1), 100);
        check.due("the next rule", pair("with c if worth=1;with d;").by(0, 0, 0, 1), -2);
        check.due("at the other post", pair("with c if worth=200;with d;").by(1, 0, 0, 1), 0);
    }

    private static void bySubjectsOfTheState() {
        PaperChancery x = pair("high days;");
        check.due("ahead of both dates", x.by(0, 999, 0, 1), 100);
        check.due("a minute short of a day", x.by(0, 2439, 0, 1), 100);
        check.due("a day", x.by(0, 2440, 0, 1), 0);
        check.due("one day and no day", x.by(0, 3879, 0, 1), 0);
        check.due("two days and no day", x.by(0, 4439, 1, 0), -1);
        check.due("two days and one day", x.by(0, 4440, 1, 0), -1);
        Check.reign(x, 4000, "low days;");
        check.due("ahead of the reign", x.by(0, 3999, 0, 1), 0);
        check.due("in the reign", x.by(0, 4000, 0, 1), -1);
        PaperChancery y = pair("bar worth>0;high posts;");
        y.resign(0, 0, 1);
        check.due("none holds", y.by(1, 9, 0, 1), 100);
        PaperChancery z = new PaperChancery();
        z.person(0, 0, 0);
        z.person(0, 0, 0);
        z.post(0, 1);
        z.post(0, 2);
        z.seat(0, 1);
        Check.reign(z, 0, "high posts;");
        z.paper(0, 0, 0, 0, 1, 1);
        z.paper(1, 0, 0, 0, 1, 1);
        z.resign(0, 0, 50);
        check.due("who holds the other post", z.by(1, 49, 0, 1), -1);
        check.due("who holds it later", z.by(1, 50, 0, 1), 0);
        check.due("not who holds this one", z.by(0, 50, 0, 1), 100);
    }

    private static void byOfOthers() {
        PaperChancery x = pair("low date;");
        x.disprove(0);
        check.due("a void one", x.by(0, 5000, 0, 1), 0);
        x.death(1, 2);
        check.due("one whose person is dead", x.by(0, 5000, 1, 0), -1);
        check.due("ones whose dates are to come", x.by(0, 0, 1, 0), -1);
        PaperChancery y = new PaperChancery();
        y.person(0, 0, 0);
        y.post(0, 1);
        y.paper(0, 5, 0, 1, 1, 1);
        y.paper(0, 4, 0, 1, 1, 1);
        check.due("one that is used", y.by(0, 9, 0, 1), 100);
        check.due("without a reign", y.by(0, 9, 1, 0), -101);
    }
}
