import java.io.IOException;
import java.nio.file.Files;
import java.nio.file.Path;
import java.util.ArrayList;
import java.util.List;

/** README.md's example, call by call: what stands behind each call there is what it answers. */
public final class ReadmeTest {
    private static final Check check = new Check();
    private static final List<String> told = new ArrayList<>();

    public static void main(String[] args) throws IOException {
        PaperChancery x = new PaperChancery();
        call("x.person(3, 5, 0);", x.person(3, 5, 0));
        call("x.person(7, 2, 1);", x.person(7, 2, 1));
        call("x.post(0, 120);", x.post(0, 120));
        call("x.seat(0, 0);", x.seat(0, 0));
        call("x.feed(0x6c6f7720, 0x64617465, 0x3b202020, 0x20202020, 0x20202020);",
                x.feed(0x6c6f7720, 0x64617465, 0x3b202020, 0x20202020, 0x20202020));
        call("x.end(9);", x.end(9));
        call("x.reign(0);", x.reign(0));
        call("x.paper(1, 500, 0, 255, 1, 1000);", x.paper(1, 500, 0, 255, 1, 1000));
        call("x.death(0, 900);", x.death(0, 900));
        call("x.holder(0, 899);", x.holder(0, 899));
        call("x.holder(0, 900);", x.holder(0, 900));
        call("x.paperOf(0, 1);", x.paperOf(0, 1));
        call("x.due(0, 9999999);", x.due(0, 9999999));
        call("x.since(0);", x.since(0));
        call("x.as(1);", x.as(1));
        call("x.holder(0, 900);", x.holder(0, 900));
        check.due("the example's lines " + example() + " are " + told, example().equals(told), true);
        check.finish();
    }

    private static void call(String call, Object answer) {
        told.add(call + " // " + answer);
    }

    /** Each line of the example that has an answer behind it: the call, and the answer's first word. */
    private static List<String> example() throws IOException {
        List<String> lines = new ArrayList<>();
        for (String line : Files.readAllLines(Path.of("README.md"))) {
            int comment = line.indexOf("//");
            if (line.startsWith("x.") && comment > 0) {
                String answer = line.substring(comment + 2).trim().split("[ :]")[0];
                lines.add(line.substring(0, comment).trim() + " // " + answer);
            }
        }
        return lines;
    }
}
