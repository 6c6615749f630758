/** Promises 9 to 13: paper, death, resign, swap, disprove. */
public final class NewsTest {
    private static final Check check = new Check();

    public static void main(String[] args) {
        papersThatCannotBe();
        papersAtTheEdges();
        otherNewsThatCannotBe();
        numbers();
        limitOfPapers();
        limitOfNews();
        disproofs();
        check.finish();
    }

    private static void papersThatCannotBe() {
        PaperChancery x = Check.house(2, 1);
        check.due("person -1", x.paper(-1, 0, 0, 1, 1, 1), -1);
        check.due("person 2", x.paper(2, 0, 0, 1, 1, 1), -1);
        check.due("date -1", x.paper(0, -1, 0, 1, 1, 1), -1);
        check.due("date 10000000", x.paper(0, 10000000, 0, 1, 1, 1), -1);
        check.due("clauses -1", x.paper(0, 0, -1, 1, 1, 1), -1);
        check.due("clauses 256", x.paper(0, 0, 256, 1, 1, 1), -1);
        check.due("dioceses -1", x.paper(0, 0, 0, -1, 1, 1), -1);
        check.due("dioceses 256", x.paper(0, 0, 0, 256, 1, 1), -1);
        check.due("least 0", x.paper(0, 0, 0, 1, 0, 1), -1);
        check.due("least 1001", x.paper(0, 0, 0, 1, 1001, 1001), -1);
        check.due("most below least", x.paper(0, 0, 0, 1, 6, 5), -1);
        check.due("most 1001", x.paper(0, 0, 0, 1, 1, 1001), -1);
        check.due("no papers", x.all(2), 0);
        check.due("no news", x.all(3), 0);
        check.due("one may seat still", x.seat(0, 0), true);
    }

    private static void papersAtTheEdges() {
        PaperChancery x = Check.house(2, 1);
        check.due("least of all", x.paper(0, 0, 0, 0, 1, 1), 1);
        check.due("greatest of all", x.paper(1, 9999999, 255, 255, 1000, 1000), 2);
        check.due("papers", x.all(2), 2);
        check.due("news", x.all(3), 2);
        check.due("paperOf(1, 3)", x.paperOf(1, 3), 2);
    }

    private static void otherNewsThatCannotBe() {
        PaperChancery x = Check.house(2, 3);
        check.due("death(-1, 0)", x.death(-1, 0), -1);
        check.due("death(2, 0)", x.death(2, 0), -1);
        check.due("death(0, -1)", x.death(0, -1), -1);
        check.due("death(0, 10000000)", x.death(0, 10000000), -1);
        check.due("resign(-1, 0, 0)", x.resign(-1, 0, 0), -1);
        check.due("resign(3, 0, 0)", x.resign(3, 0, 0), -1);
        check.due("resign(0, 2, 0)", x.resign(0, 2, 0), -1);
        check.due("resign(0, NONE, 0)", x.resign(0, -1, 0), -1);
        check.due("resign(0, 0, -1)", x.resign(0, 0, -1), -1);
        check.due("resign(0, 0, 10000000)", x.resign(0, 0, 10000000), -1);
        check.due("swap(-1, 0, 0)", x.swap(-1, 0, 0), -1);
        check.due("swap(0, 3, 0)", x.swap(0, 3, 0), -1);
        check.due("swap(1, 1, 0)", x.swap(1, 1, 0), -1);
        check.due("swap(0, 1, -1)", x.swap(0, 1, -1), -1);
        check.due("swap(0, 1, 10000000)", x.swap(0, 1, 10000000), -1);
        check.due("disprove(0)", x.disprove(0), -1);
        check.due("disprove(-1)", x.disprove(-1), -1);
        check.due("no news", x.all(3), 0);
    }

    private static void numbers() {
        PaperChancery x = Check.house(2, 3);
        check.due("a death", x.death(1, 9999999), 1);
        check.due("a paper", x.paper(0, 5, 0, 255, 1, 1000), 2);
        check.due("a resignation", x.resign(0, 1, 0), 3);
        check.due("a swap", x.swap(0, 2, 3), 4);
        check.due("a second death", x.death(1, 4), 5);
        check.due("a paper more", x.paper(0, 5, 0, 255, 1, 1000), 6);
        check.due("a disproof", x.disprove(1), 7);
        check.due("papers", x.all(2), 2);
        check.due("news", x.all(3), 7);
        check.due("paperOf(0, 3)", x.paperOf(0, 3), 2);
        check.due("paperOf(1, 3)", x.paperOf(1, 3), 6);
    }

    private static void limitOfPapers() {
        PaperChancery x = Check.house(1, 1);
        for (int i = 1; i <= 48; i++) {
            check.due("paper " + i, x.paper(0, 100 - i, 0, 0, 1, 1), i);
        }
        check.due("a 49th", x.paper(0, 0, 0, 0, 1, 1), -1);
        check.due("papers", x.all(2), 48);
        check.due("a death behind them", x.death(0, 0), 49);
    }

    private static void limitOfNews() {
        PaperChancery x = Check.house(2, 3);
        x.seat(2, 1);
        x.paper(0, 0, 0, 0, 1, 1);
        for (int i = 2; i <= 160; i++) {
            check.due("news " + i, x.swap(0, 1, 200 - i), i);
        }
        check.due("a 161st: paper", x.paper(0, 0, 0, 0, 1, 1), -1);
        check.due("a 161st: death", x.death(0, 0), -1);
        check.due("a 161st: resign", x.resign(0, 0, 0), -1);
        check.due("a 161st: swap", x.swap(0, 1, 0), -1);
        check.due("a 161st: disprove", x.disprove(0), -1);
        check.due("news", x.all(3), 160);
        check.due("papers", x.all(2), 1);
        check.due("since(0)", x.since(0), 0);
        check.due("since(2)", x.since(2), 0);
        check.due("as(161)", x.as(161), false);
        check.due("as(160)", x.as(160), true);
    }

    private static void disproofs() {
        PaperChancery x = Check.house(2, 1);
        x.paper(0, 5, 0, 1, 1, 1000);
        x.paper(1, 6, 0, 1, 1, 1000);
        check.due("the first is used", x.holder(0, 9), 0);
        check.due("disprove(0)", x.disprove(0), 3);
        check.due("the second is used", x.holder(0, 9), 1);
        check.due("disprove(0) again", x.disprove(0), -1);
        check.due("disprove(2)", x.disprove(2), -1);
        x.as(1);
        check.due("disprove(0) as known at 1", x.disprove(0), -1);
        check.due("disprove(1) as known at 1", x.disprove(1), 4);
        x.as(-1);
        check.due("none is used", x.holder(0, 9), -1);
        check.due("news", x.all(3), 4);
    }
}
