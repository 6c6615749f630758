import java.util.Random;

/** No call throws, whatever its arguments: wild numbers among likely ones, up to 512 calls an object. */
public final class WildTest {
    private static final Check check = new Check();
    private static final int[] EDGES = {Integer.MIN_VALUE, Integer.MAX_VALUE, -1, -2, 0, 1, 15, 16, 23, 24, 47, 48, 159,
        160, 161, 255, 256, 400, 401, 999, 1000, 1001, 9999999, 10000000};

    public static void main(String[] args) {
        for (int seed = 0; seed < 1000; seed++) {
            Random random = new Random(seed);
            PaperChancery x = random.nextInt(4) == 0 ? new PaperChancery() : Check.house(24, 16);
            for (int call = 0; call < 460; call++) {
                try {
                    call(x, random);
                } catch (RuntimeException thrown) {
                    check.due("seed " + seed + ", call " + call + ": " + thrown, 1, 0);
                }
            }
            check.due("persons", x.all(0) <= 24, true);
            check.due("posts", x.all(1) <= 16, true);
            check.due("papers", x.all(2) <= 48, true);
            check.due("news", x.all(3) <= 160, true);
            check.due("reigns", x.all(4) <= 6, true);
        }
        check.finish();
    }

    private static int wild(Random random) {
        return random.nextInt(12) == 0 ? random.nextInt()
                : random.nextInt(4) == 0 ? EDGES[random.nextInt(EDGES.length)] : random.nextInt(10);
    }

    private static void call(PaperChancery x, Random random) {
        int a = wild(random);
        int b = wild(random);
        int c = wild(random);
        int d = wild(random);
        switch (random.nextInt(28)) {
            case 0: x.feed(a, b, c, d, random.nextInt()); break;
            case 1: x.end(a); break;
            case 2: x.person(a, b, c); break;
            case 3: x.post(a, b); break;
            case 4: x.seat(a, b); break;
            case 5: x.reign(a); break;
            case 6: x.fault(a); break;
            case 7: case 8: x.paper(a, b, c, random.nextInt(256), 1, 1000); break;
            case 9: x.paper(a, b, c, d, wild(random), wild(random)); break;
            case 10: x.death(a, b); break;
            case 11: x.resign(a, b, c); break;
            case 12: x.swap(a, b, c); break;
            case 13: x.disprove(a); break;
            case 14: x.as(a); break;
            case 15: x.holder(a, b); break;
            case 16: x.paperOf(a, b); break;
            case 17: x.posts(a, b); break;
            case 18: x.due(a, b); break;
            case 19: x.claims(a, b); break;
            case 20: x.claim(a); break;
            case 21: x.by(a, b, c, d); break;
            case 22: x.since(a); break;
            case 23: x.all(a); break;
            case 24: x.wish(a, b); break;
            case 25: x.content(a); break;
            case 26: x.rings(); break;
            default: x.got(a); break;
        }
    }
}
