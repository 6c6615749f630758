import java.util.ArrayList;
import java.util.List;
import java.util.Random;
import java.util.regex.Matcher;
import java.util.regex.Pattern;

/** Promises 7, 8: reign and fault; what is a text, and where its first fault is. */
public final class RuleTextTest {
    private static final Check check = new Check();

    public static void main(String[] args) {
        soundTexts();
        faultyTexts();
        faultsOfSubjects();
        manyRules();
        manyTexts();
        bytesBehindTheEnd();
        refusals();
        faultOfTheLatest();
        faultOfARefusedOne();
        randomTexts();
        check.finish();
    }

    private static void text(String text, int answer, int fault, int place) {
        PaperChancery x = new PaperChancery();
        String name = "\"" + text.replace("\n", "\\n") + "\"";
        check.due("reign of " + name, Check.reign(x, 7, text), answer);
        check.due("fault(0) of " + name, x.fault(0), fault);
        check.due("fault(1) of " + name, x.fault(1), place);
        check.due("reigns behind " + name, x.all(4), answer < 0 ? 0 : 1);
        check.due("the tape behind " + name, x.end(1), false);
    }

    private static void sound(String text, int rules) {
        text(text, rules, 0, -1);
    }

    private static void faulty(String text, int place) {
        text(text, -1, 1, place);
    }

    private static void soundTexts() {
        sound("", 0);
        sound(" \n ", 0);
        sound("home;", 1);
        sound("\nhome ;\n", 1);
        sound("with a;with h;", 2);
        sound("high worth;low diocese;high degree;low rank;high posts;low date;high days;", 7);
        sound("bar worth<1;bar diocese>2;bar degree=3;bar rank<4;bar posts>5;bar date=6;bar days<7;", 7);
        sound("bar worth<1and diocese>2 and degree=0000003;", 1);
        sound("home if worth>10 and diocese=3and worth<9999999;", 1);
        sound("low\ndate\nif\nworth\n<\n0\n;", 1);
        sound("home;home;home;", 3);
    }

    private static void faultyTexts() {
        faulty(";", 0);
        faulty("home", 4);
        faulty("home  ", 6);
        faulty("home;;", 5);
        faulty("homes;", 0);
        faulty("hom", 0);
        faulty("home if", 7);
        faulty("home if;", 7);
        faulty("home worth;", 5);
        faulty("with", 4);
        faulty("with;", 4);
        faulty("with i;", 5);
        faulty("with ab;", 5);
        faulty("with A;", 5);
        faulty("witha;", 0);
        faulty("with 5;", 5);
        faulty("high;", 4);
        faulty("high home;", 5);
        faulty("low dates;", 4);
        faulty("lowdate;", 0);
        faulty("low 5;", 4);
        faulty("low date and;", 9);
        faulty("low date if worth;", 17);
        faulty("low date if worth<;", 18);
        faulty("low date if worth<<1;", 18);
        faulty("low date if worth<-1;", 18);
        faulty("low date if worth<1 2;", 20);
        faulty("low date if worth<1 worth>2;", 20);
        faulty("low date if worth<1 and;", 23);
        faulty("low date if worth<1 and", 23);
        faulty("low date if worth<1 if worth<2;", 20);
        faulty("bar;", 3);
        faulty("bar worth=1 if worth=2;", 12);
        faulty("bar with a;", 4);
        faulty("bar worth=1", 11);
        faulty("bar worth=12345678;", 17);
        faulty("bar worth=123456789;", 17);
        faulty("bar 12345678;", 4);
        faulty("if worth=1;", 0);
        faulty("and;", 0);
        faulty("date;", 0);
        faulty("a;", 0);
        faulty("1;", 0);
        faulty("Home;", 0);
        faulty("home;\thome;", 5);
        faulty("home;\rhome;", 5);
        faulty("home\u00ff;", 4);
        faulty("home\u0000;", 4);
        faulty("diocesediocese;", 0);
        faulty("homez;", 0);
        faulty("dome;", 0);
        faulty("low late;", 4);
        faulty("bar xorth=1;", 4);
        faulty("high diocesex;", 5);
    }

    private static void faultsOfSubjects() {
        for (String subject : new String[] {"degree", "rank", "posts", "date", "days"}) {
            text("home if " + subject + "=1;", -1, 2, 8);
            text("home if worth=1 and " + subject + "=1;", -1, 2, 20);
            text("home if " + subject + "!", -1, 2, 8);
            sound("bar worth=1 and " + subject + "=1;high " + subject + ";", 2);
        }
        text("homes;home if rank=1;", -1, 1, 0);
        text("home if rank=1;homes;", -1, 2, 8);
    }

    private static void manyRules() {
        sound("home;".repeat(16), 16);
        sound("home;".repeat(16) + "  ", 16);
        faulty("home;".repeat(17), 80);
        faulty("home;".repeat(16) + " \nnonsense", 82);
        faulty("home;".repeat(16) + ";", 80);
        String long400 = "bar days=1" + "and days=1".repeat(38) + " and days=";
        sound((long400 + "1;").substring(0, 390) + ";", 1);
        faulty(long400, 400);
        sound("bar days=1;".repeat(16), 16);
    }

    /** Texts read one behind the other do not take room from each other. */
    private static void manyTexts() {
        PaperChancery x = Check.house(2, 1);
        x.paper(0, 5, 0, 0, 1, 1);
        String many = "bar worth>0" + "and worth>0".repeat(33);
        for (int i = 0; i < 10; i++) {
            check.due("a text that ends too soon", Check.reign(x, 0, many), -1);
        }
        check.due("many tests", Check.reign(x, 0, many + ";"), 1);
        check.due("many tests of which the last fails", Check.reign(x, 1, many + "and worth=7;"), 1);
        x.paper(1, 0, 0, 1, 1, 1000);
        check.due("barred at 0", x.claims(0, 0), 0);
        check.due("not barred at 1", x.claims(0, 1), 1);
    }

    private static void bytesBehindTheEnd() {
        PaperChancery x = new PaperChancery();
        Check.write(x, "home;homes;high rank");
        x.end(9);
        check.due("home;home", x.reign(0), -1);
        check.due("its place", x.fault(1), 9);
        Check.write(x, "home;homes;high rank");
        x.end(5);
        check.due("home;", x.reign(0), 1);
    }

    private static void refusals() {
        PaperChancery x = new PaperChancery();
        check.due("reign(-1)", Check.reign(x, -1, "home;"), -2);
        check.due("the tape went", x.end(1), false);
        check.due("reign(10000000)", Check.reign(x, 10000000, "home;"), -2);
        check.due("no reigns", x.all(4), 0);
        check.due("reign(0)", Check.reign(x, 0, "home;"), 1);
        check.due("reign(9999999)", Check.reign(x, 9999999, "home;home;"), 2);
        check.due("a faulty one", Check.reign(x, 3, "home;hom"), -1);
        check.due("two reigns", x.all(4), 2);
        for (int i = 3; i <= 6; i++) {
            check.due("reign " + i, x.reign(5), 0);
        }
        check.due("six reigns", x.all(4), 6);
        check.due("a 7th", Check.reign(x, 5, "home;"), -2);
        check.due("six reigns still", x.all(4), 6);
        check.due("the tape went again", x.end(1), false);
    }

    private static void faultOfTheLatest() {
        PaperChancery x = new PaperChancery();
        check.due("fault(0) ahead of any", x.fault(0), 0);
        check.due("fault(1) ahead of any", x.fault(1), -1);
        Check.reign(x, 0, "home if rank=1;");
        check.due("fault(0)", x.fault(0), 2);
        check.due("fault(1)", x.fault(1), 8);
        check.due("fault(2)", x.fault(2), -1);
        check.due("fault(-1)", x.fault(-1), -1);
        Check.write(x, "nonsense");
        check.due("fault(0) before it is read", x.fault(0), 2);
        x.end(0);
        x.reign(0);
        check.due("fault(0) of a sound one", x.fault(0), 0);
        check.due("fault(1) of a sound one", x.fault(1), -1);
        Check.reign(x, 0, "home");
        check.due("fault(1) at the end", x.fault(1), 4);
        check.due("refused", x.reign(-1), -2);
        check.due("fault(0) of a refused one", x.fault(0), 0);
        check.due("fault(1) of a refused one", x.fault(1), -1);
    }

    /** A fault is told ahead of a time that can't be and of six reigns; the tape goes, and no reign comes. */
    private static void faultOfARefusedOne() {
        PaperChancery x = new PaperChancery();
        for (int time : new int[] {-1, 10000000, Integer.MIN_VALUE, Integer.MAX_VALUE}) {
            faultyAt(x, time, 0);
            check.due("a sound text at " + time, Check.reign(x, time, "home;"), -2);
            check.due("its fault", x.fault(0), 0);
            check.due("its fault's place", x.fault(1), -1);
        }
        for (int i = 0; i < 6; i++) {
            x.reign(0);
        }
        for (int time : new int[] {0, 9999999, -1, 10000000}) {
            faultyAt(x, time, 6);
            check.due("a sound 7th at " + time, Check.reign(x, time, "home;"), -2);
            check.due("a 7th's fault", x.fault(0), 0);
            check.due("a 7th's fault's place", x.fault(1), -1);
            check.due("an empty 7th at " + time, x.reign(time), -2);
        }
    }

    private static void faultyAt(PaperChancery x, int time, int reigns) {
        x.feed(0, 0, 0, 0, 0);
        check.due("bytes 0 at " + time, x.reign(time), -1);
        check.due("fault of bytes 0", x.fault(0), 1);
        check.due("place of bytes 0", x.fault(1), 0);
        check.due("home if rank=1; at " + time, Check.reign(x, time, "home if rank=1;"), -1);
        check.due("fault of the subject", x.fault(0), 2);
        check.due("place of the subject", x.fault(1), 8);
        check.due("the tape went", x.end(1), false);
        check.due("the reigns", x.all(4), reigns);
    }

    // ---- an oracle that knows the grammar as a regular expression over kinds of tokens

    private static final Pattern TOKEN = Pattern.compile("[ \n]*([a-z]+|[0-9]{1,7}|[^ \n]|$)");
    private static final String STRICT = "((wL|h|g[ST])(iSCN(aSCN)*)?;|b[ST]CN(a[ST]CN)*;){0,16}E?";
    private static final Pattern SOUND = Pattern.compile(STRICT);
    private static final Pattern LAX = Pattern.compile(STRICT.replace("SCN", "[ST]CN"));

    private static char kindOf(String token) {
        switch (token) {
            case "": return 'E';
            case "with": return 'w';
            case "home": return 'h';
            case "high": case "low": return 'g';
            case "bar": return 'b';
            case "if": return 'i';
            case "and": return 'a';
            case "worth": case "diocese": return 'S';
            case "degree": case "rank": case "posts": case "date": case "days": return 'T';
            case "<": case ">": case "=": return 'C';
            case ";": return ';';
            default: return token.matches("[a-h]") ? 'L' : token.matches("[0-9]+") ? 'N' : 'X';
        }
    }

    private static boolean goesOn(Pattern grammar, String kinds) {
        Matcher matcher = grammar.matcher(kinds);
        return matcher.matches() || !kinds.endsWith("E") && matcher.hitEnd();
    }

    private static void judge(String text) {
        StringBuilder kinds = new StringBuilder();
        Matcher matcher = TOKEN.matcher(text);
        int rules = 0;
        int at = 0;
        while (matcher.find(at)) {
            char kind = kindOf(matcher.group(1));
            kinds.append(kind);
            rules += kind == ';' ? 1 : 0;
            if (!goesOn(SOUND, kinds.toString())) {
                text(text, -1, goesOn(LAX, kinds.toString()) ? 2 : 1, matcher.start(1));
                return;
            }
            if (kind == 'E') {
                sound(text, rules);
                return;
            }
            at = matcher.end();
        }
        check.due("the oracle came to an end with " + text, 0, 1);
    }

    private static final String[] PIECES = {"with", "home", "high", "low", "bar", "if", "and", "worth", "diocese",
        "degree", "rank", "posts", "date", "days", "<", ">", "=", ";", "a", "h", "i", "0", "77", "1234567", "12345678",
        "A", "\t", "low", "wort", "!"};
    private static final String[] RULES = {"home", "with c", "low date", "high rank", "home if worth>5",
        "low days if worth < 3 and diocese = 2", "bar posts>1", "bar rank<2 and date>55"};

    private static void randomTexts() {
        Random random = new Random(20261118);
        for (int round = 0; round < 20000; round++) {
            List<String> words = new ArrayList<>();
            int rules = random.nextInt(6);
            for (int i = 0; i < rules; i++) {
                for (String word : RULES[random.nextInt(RULES.length)].split(" ")) {
                    words.add(word);
                }
                words.add(";");
            }
            int changes = random.nextInt(4);
            for (int i = 0; i < changes; i++) {
                int place = random.nextInt(words.size() + 1);
                String piece = PIECES[random.nextInt(PIECES.length)];
                if (place < words.size() && random.nextBoolean()) {
                    words.set(place, piece);
                } else {
                    words.add(place, piece);
                }
            }
            StringBuilder text = new StringBuilder();
            for (String word : words) {
                text.append(random.nextInt(8) == 0 ? "" : random.nextInt(4) == 0 ? "\n " : " ").append(word);
            }
            judge(text.substring(0, Math.min(text.length(), random.nextInt(5) == 0 ? random.nextInt(60) : 400)));
        }
    }
}
