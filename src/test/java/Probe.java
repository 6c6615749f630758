import java.util.ArrayList;
import java.util.List;

/** What an object answers to a long row of calls: two objects in the same state answer alike. It uses the object up. */
final class Probe {
    private static final int[] TIMES = {0, 10, Check.LAST_TIME};

    private final PaperChancery x;
    private final List<String> row = new ArrayList<>();

    private Probe(PaperChancery probed) {
        x = probed;
    }

    static List<String> of(PaperChancery x) {
        Probe probe = new Probe(x);
        probe.counts("at first");
        probe.latest();
        probe.posts();
        probe.persons();
        probe.papers();
        probe.rings();
        probe.tape();
        probe.next();
        return probe.row;
    }

    private void answer(String call, long got) {
        row.add(call + " = " + got);
    }

    /** The first four and the last two of so many: an object bears 512 calls alone. */
    private static List<Integer> some(int count) {
        List<Integer> list = new ArrayList<>();
        for (int i = 0; i < count; i++) {
            if (i < 4 || i >= count - 2) {
                list.add(i);
            }
        }
        return list;
    }

    private void counts(String when) {
        for (int what = 0; what <= 6; what++) {
            answer(when + " all(" + what + ")", x.all(what));
        }
    }

    /** What is told of the latest call of a kind comes first: the probe itself makes such calls later. */
    private void latest() {
        answer("fault(0)", x.fault(0));
        answer("fault(1)", x.fault(1));
        for (int k = 0; k < 3; k++) {
            answer("claim(" + k + ")", x.claim(k));
        }
        for (int person : some(x.all(0))) {
            answer("got(" + person + ") of the latest", x.got(person));
        }
    }

    private void posts() {
        for (int post : some(x.all(1))) {
            for (int time : TIMES) {
                answer("holder(" + post + ", " + time + ")", x.holder(post, time));
            }
            answer("since(" + post + ")", x.since(post));
            answer("by(" + post + ", 10, 0, 1)", x.by(post, 10, 0, 1));
            answer("claims(" + post + ", 10)", x.claims(post, 10));
            answer("claim(0) on " + post, x.claim(0));
        }
    }

    private void persons() {
        for (int person : some(x.all(0))) {
            for (int time : TIMES) {
                answer("posts(" + person + ", " + time + ")", x.posts(person, time));
            }
            answer("due(" + person + ", last)", x.due(person, Check.LAST_TIME));
        }
    }

    private void papers() {
        for (int paper : some(x.all(2))) {
            for (int what = 0; what <= 3; what++) {
                answer("paperOf(" + paper + ", " + what + ")", x.paperOf(paper, what));
            }
        }
    }

    private void rings() {
        answer("rings()", x.rings());
        for (int person : some(x.all(0))) {
            answer("got(" + person + ")", x.got(person));
            answer("content(" + person + ")", x.content(person));
        }
    }

    private void tape() {
        answer("feed", x.feed(0x20202020, 0x20202020, 0x20202020, 0x20202020, 0x202020ff));
        answer("reign(5)", x.reign(5));
        answer("fault(0) then", x.fault(0));
        answer("fault(1) then", x.fault(1));
    }

    private void next() {
        answer("seat(0, 0)", x.seat(0, 0) ? 1 : 0);
        answer("the next person", x.person(0, 0, 0));
        answer("the next post", x.post(0, 1));
        answer("the next death", x.death(0, 10));
        answer("as(NONE)", x.as(-1) ? 1 : 0);
        counts("at last");
    }
}
