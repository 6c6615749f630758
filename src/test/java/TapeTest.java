/** Promises 1, 2, 3: a new object, feed, end. */
public final class TapeTest {
    private static final Check check = new Check();

    public static void main(String[] args) {
        newObject();
        feed();
        end();
        bytesInOrder();
        check.finish();
    }

    private static void newObject() {
        PaperChancery x = new PaperChancery();
        for (int what = 0; what <= 6; what++) {
            check.due("new: all(" + what + ")", x.all(what), 0);
        }
        check.due("new: holder(0, 0)", x.holder(0, 0), -1);
        check.due("new: posts(0, 0)", x.posts(0, 0), -1);
        check.due("new: due(0, 0)", x.due(0, 0), -1);
        check.due("new: claims(0, 0)", x.claims(0, 0), -1);
        check.due("new: claim(0)", x.claim(0), -1);
        check.due("new: since(0)", x.since(0), -1);
        check.due("new: by(0, 0, 0, 1)", x.by(0, 0, 0, 1), -1000);
        check.due("new: paperOf(0, 0)", x.paperOf(0, 0), -2);
        check.due("new: rings()", x.rings(), 0);
        check.due("new: got(0)", x.got(0), -1);
        check.due("new: content(0)", x.content(0), -1);
        check.due("new: wish(0, 0)", x.wish(0, 0), -1);
        check.due("new: fault(0)", x.fault(0), 0);
        check.due("new: fault(1)", x.fault(1), -1);
        check.due("new: as(0)", x.as(0), true);
        check.due("new: as(1)", x.as(1), false);
        check.due("new: end(0)", x.end(0), true);
        check.due("new: end(1)", x.end(1), false);
        check.due("NONE", PaperChancery.NONE, -1);
    }

    private static void feed() {
        PaperChancery x = new PaperChancery();
        int blanks = 0x20202020;
        for (int i = 1; i <= 20; i++) {
            check.due("feed " + i, x.feed(blanks, blanks, blanks, blanks, blanks), 20 * i);
        }
        check.due("feed beyond 400", x.feed(0, 0, 0, 0, 0), -1);
        check.due("end(381)", x.end(381), true);
        check.due("feed beyond 400 by one", x.feed(0, 0, 0, 0, 0), -1);
        check.due("nothing was fed", x.end(382), false);
        check.due("end(380)", x.end(380), true);
        check.due("feed up to 400", x.feed(blanks, blanks, blanks, blanks, blanks), 400);
        check.due("400 blanks", x.reign(0), 0);
        check.due("the tape went", x.feed(0, 0, 0, 0, 0), 20);
    }

    private static void end() {
        PaperChancery x = new PaperChancery();
        x.feed(0, 0, 0, 0, 0);
        check.due("end(21)", x.end(21), false);
        check.due("end(-1)", x.end(-1), false);
        check.due("end(MIN)", x.end(Integer.MIN_VALUE), false);
        check.due("end(MAX)", x.end(Integer.MAX_VALUE), false);
        check.due("end(20)", x.end(20), true);
        check.due("end(7)", x.end(7), true);
        check.due("end(8)", x.end(8), false);
        check.due("feed", x.feed(0, 0, 0, 0, 0), 27);
        check.due("end(0)", x.end(0), true);
        check.due("feed again", x.feed(0, 0, 0, 0, 0), 20);
    }

    private static void bytesInOrder() {
        PaperChancery x = new PaperChancery();
        x.feed(0x6c6f7720, 0x64617465, 0x3b686967, 0x68206461, 0x79733bff);
        x.end(19);
        check.due("low date;high days;", x.reign(0), 2);
        x.feed(0x20202020, 0x20202020, 0x20202020, 0x20202020, 0x202020ff);
        check.due("the last byte of twenty", x.reign(0), -1);
        check.due("its place", x.fault(1), 19);
        x.feed(0xff202020, 0x20202020, 0x20202020, 0x20202020, 0x20202020);
        x.reign(0);
        check.due("the first byte of twenty", x.fault(1), 0);
        x.feed(0x20202020, 0x20202020, 0x20ff2020, 0x20202020, 0x20202020);
        x.reign(0);
        check.due("the tenth byte of twenty", x.fault(1), 9);
    }
}
