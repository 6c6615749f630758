/** Promises 14, 22, 23: as, since, all. */
public final class KnownTest {
    private static final Check check = new Check();

    public static void main(String[] args) {
        as();
        asLaterNewsCome();
        since();
        sinceWithAChangedWorld();
        all();
        check.finish();
    }

    private static void as() {
        PaperChancery x = Check.house(3, 1);
        x.seat(0, 0);
        x.resign(0, 1, 50);
        x.resign(0, 2, 20);
        x.resign(0, 0, 30);
        check.due("as(4)", x.as(4), false);
        check.due("as(-2)", x.as(-2), false);
        check.due("as(MAX)", x.as(Integer.MAX_VALUE), false);
        check.due("all(6) of the last", x.all(6), 3);
        int[] holders = {0, 1, 1, 1};
        int[] at20 = {0, 0, 2, 2};
        int[] at30 = {0, 0, 2, 0};
        for (int n = 0; n <= 3; n++) {
            check.due("as(" + n + ")", x.as(n), true);
            check.due("all(6) of " + n, x.all(6), n);
            check.due("holder at the end, as known at " + n, x.holder(0, 99), holders[n]);
            check.due("holder at 20, as known at " + n, x.holder(0, 20), at20[n]);
            check.due("holder at 30, as known at " + n, x.holder(0, 30), at30[n]);
        }
        x.as(1);
        check.due("as(9)", x.as(9), false);
        check.due("all(6) as it was", x.all(6), 1);
        check.due("as(NONE)", x.as(-1), true);
        check.due("all(6) of all", x.all(6), 3);
    }

    private static void asLaterNewsCome() {
        PaperChancery x = Check.house(2, 1);
        x.seat(0, 0);
        x.as(0);
        x.resign(0, 1, 5);
        check.due("as known at none", x.holder(0, 9), 0);
        check.due("all(6)", x.all(6), 0);
        check.due("all(3)", x.all(3), 1);
        x.as(1);
        x.death(1, 6);
        check.due("as known at 1", x.holder(0, 9), 1);
        check.due("posts as known at 1", x.posts(1, 9), 1);
        x.as(-1);
        check.due("as known at 2", x.holder(0, 9), -1);
        x.death(0, 1);
        check.due("all(6) goes on", x.all(6), 3);
        check.due("posts as known at 3", x.posts(0, 4), 0);
    }

    private static void since() {
        PaperChancery x = Check.house(3, 3);
        x.seat(0, 0);
        x.seat(1, 1);
        check.due("since(-1)", x.since(-1), -1);
        check.due("since(3)", x.since(3), -1);
        check.due("since(0) without news", x.since(0), 0);
        x.resign(0, 2, 50);
        x.resign(0, 0, 10);
        x.death(1, 5);
        x.resign(0, 0, 60);
        x.death(0, 100);
        check.due("since(0)", x.since(0), 5);
        check.due("since(1)", x.since(1), 3);
        check.due("since(2), free all the time", x.since(2), 0);
        x.as(4);
        check.due("since(0) as known at 4", x.since(0), 4);
        x.as(3);
        check.due("since(0) as known at 3", x.since(0), 1);
        x.as(2);
        check.due("since(1) as known at 2", x.since(1), 0);
        x.as(0);
        check.due("since(0) as known at none", x.since(0), 0);
    }

    private static void sinceWithAChangedWorld() {
        PaperChancery x = Check.house(2, 1);
        x.paper(0, 5, 0, 3, 1, 1000);
        x.paper(1, 5, 0, 3, 1, 1000);
        x.paper(1, 4, 0, 3, 1, 1000);
        check.due("since(0)", x.since(0), 3);
        x.post(1, 200);
        check.due("since(0) with a second post", x.since(0), 3);
        check.due("since(1) with a second post", x.since(1), 3);
        Check.reign(x, 0, "bar worth=200;");
        check.due("since(0) with a reign", x.since(0), 3);
        check.due("since(1) with a reign", x.since(1), 0);
        check.due("the end is not changed by it", x.holder(0, 9), 1);
        x.disprove(2);
        check.due("since(0) behind a disproof", x.since(0), 4);
        check.due("the holder", x.holder(0, 9), 0);
    }

    private static void all() {
        PaperChancery x = Check.house(3, 2);
        x.reign(5);
        x.paper(0, 5, 0, 1, 1, 1000);
        x.death(0, 7);
        x.paper(1, 6, 0, 1, 1, 1000);
        int[] want = {3, 2, 2, 3, 1, 1, 3};
        for (int what = 0; what <= 6; what++) {
            check.due("all(" + what + ")", x.all(what), want[what]);
        }
        check.due("all(7)", x.all(7), -1);
        check.due("all(-1)", x.all(-1), -1);
        x.as(0);
        check.due("free as known at none", x.all(5), 2);
        check.due("all papers", x.all(2), 2);
        check.due("all news", x.all(3), 3);
    }
}
