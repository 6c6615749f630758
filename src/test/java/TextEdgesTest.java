/** Promises 7 and 8 with Terms III: a test of its own for each sentence that names an edge. */
public final class TextEdgesTest {
    private static final Check check = new Check();

    public static void main(String[] args) {
        howManyRules();
        theTapeGoes();
        noReignWithAFault();
        timesOfReigns();
        noMoreThanSixReigns();
        faultOfTheLatestReign();
        noOtherWhat();
        blanksWhereOneLikes();
        wordsAndNumbersSideBySide();
        keys();
        letters();
        numbers();
        signs();
        textsThatEndTooSoon();
        wordsWholeAtTheirFirstByte();
        noByteWithWhichNoTextGoesOn();
        theSeventeenthRule();
        otherSubjectsBehindIf();
        theFirstFaultAlongTheText();
        theLongestText();
        textsOneBehindTheOther();
        check.finish();
    }

    private static String shown(String text) {
        StringBuilder line = new StringBuilder("\"");
        for (char byteOfIt : text.toCharArray()) {
            line.append(byteOfIt >= 32 && byteOfIt < 127 ? "" + byteOfIt : "\\" + (int) byteOfIt);
        }
        return line.append("\"").toString();
    }

    private static void text(String text, int answer, int fault, int place) {
        PaperChancery x = new PaperChancery();
        check.due("reign of " + shown(text), Check.reign(x, 7, text), answer);
        check.due("fault(0) of " + shown(text), x.fault(0), fault);
        check.due("fault(1) of " + shown(text), x.fault(1), place);
        check.due("reigns behind " + shown(text), x.all(4), answer < 0 ? 0 : 1);
    }

    private static void sound(String text, int rules) {
        text(text, rules, 0, -1);
    }

    private static void faulty(String text, int place) {
        text(text, -1, 1, place);
    }

    private static void howManyRules() {
        check.sentence("7: The tape is the TEXT of a REIGN: how many RULES");
        check.due("an empty tape", new PaperChancery().reign(0), 0);
        PaperChancery x = new PaperChancery();
        check.due("an empty tape is a reign", x.reign(0) + x.all(4), 1);
        for (int rules = 0; rules <= 16; rules++) {
            sound("home;".repeat(rules), rules);
            sound("bar worth=1;".repeat(rules), rules);
        }
        sound("home;bar worth=1;low date if worth<5;with h;", 4);
    }

    private static void theTapeGoes() {
        check.sentence("7: The tape (it goes)");
        PaperChancery x = new PaperChancery();
        check.due("a sound text", Check.reign(x, 0, "home;"), 1);
        check.due("it went", x.end(1), false);
        check.due("the next is empty", x.reign(0), 0);
        check.due("a faulty text", Check.reign(x, 0, "home"), -1);
        check.due("it went", x.end(1), false);
        check.due("a sound text at no time", Check.reign(x, -1, "home;"), -2);
        check.due("it went", x.end(1), false);
        check.due("a faulty text at no time", Check.reign(x, -1, "home"), -1);
        check.due("it went", x.end(1), false);
        for (int i = 2; i < 6; i++) {
            x.reign(0);
        }
        check.due("a sound 7th", Check.reign(x, 0, "home;"), -2);
        check.due("it went", x.end(1), false);
        check.due("a faulty 7th", Check.reign(x, 0, "home"), -1);
        check.due("it went", x.end(1), false);
        check.due("feed begins anew", x.feed(0, 0, 0, 0, 0), 20);
    }

    /** Two papers, of which the second has clause a and the first has clause h. */
    private static PaperChancery two() {
        PaperChancery x = Check.house(2, 1);
        x.paper(0, 0, 128, 0, 1, 1);
        x.paper(1, 0, 1, 0, 1, 1);
        return x;
    }

    private static void noReignWithAFault() {
        check.sentence("7: -1 with a FAULT");
        PaperChancery x = two();
        check.due("a sound one", Check.reign(x, 5, "with a;"), 1);
        check.due("a faulty one", Check.reign(x, 5, "with h;home"), -1);
        check.due("one reign", x.all(4), 1);
        check.due("the sound one is in force", x.by(0, 5, 0, 1), -1);
        check.due("a faulty one later", Check.reign(x, 6, "with h;;"), -1);
        check.due("the sound one is in force still", x.by(0, 6, 0, 1), -1);
        for (int i = 0; i < 9; i++) {
            check.due("faulty ones take no room", Check.reign(x, 6, "with"), -1);
        }
        check.due("the second reign", Check.reign(x, 6, "with h;"), 1);
        check.due("two reigns", x.all(4), 2);
        check.due("the second is in force", x.by(0, 6, 0, 1), 0);
    }

    private static void timesOfReigns() {
        check.sentence("7: -2 the TIME can't be");
        for (int time : Check.NO_TIMES) {
            PaperChancery x = two();
            check.due("reign(" + time + ")", Check.reign(x, time, "with a;"), -2);
            check.due("no reign", x.all(4), 0);
            check.due("no rules at 0", x.by(0, 0, 0, 1), 100);
            check.due("no rules at last", x.by(0, Check.LAST_TIME, 0, 1), 100);
            check.due("an empty tape", x.reign(time), -2);
        }
        for (int time : new int[] {0, 1, Check.LAST_TIME - 1, Check.LAST_TIME}) {
            PaperChancery x = two();
            check.due("reign(" + time + ")", Check.reign(x, time, "with a;"), 1);
            check.due("one reign", x.all(4), 1);
            check.due("in force at " + time, x.by(0, time, 0, 1), -1);
            if (time > 0) {
                check.due("not ahead of " + time, x.by(0, time - 1, 0, 1), 100);
            }
        }
    }

    private static void noMoreThanSixReigns() {
        check.sentence("7: -2 there are 6; III: 6 REIGNS at most");
        PaperChancery x = two();
        for (int i = 1; i <= 5; i++) {
            check.due("reign " + i, x.reign(i), 0);
            check.due("reigns", x.all(4), i);
        }
        check.due("reign 6", Check.reign(x, 6, "with a;"), 1);
        check.due("six reigns", x.all(4), 6);
        check.due("a 7th", Check.reign(x, 6, "with h;"), -2);
        check.due("a 7th later", Check.reign(x, 9, "with h;"), -2);
        check.due("an empty 7th", x.reign(6), -2);
        check.due("six reigns still", x.all(4), 6);
        check.due("the 6th is in force", x.by(0, 9, 0, 1), -1);
        check.due("the 5th is empty", x.by(0, 5, 0, 1), 100);
    }

    private static void faultOfTheLatestReign() {
        check.sentence("8: Of the latest reign(): its FAULT (what 0; 0 without, or ahead of any), its place (1; NONE without)");
        PaperChancery x = new PaperChancery();
        fault(x, "ahead of any", 0, -1);
        Check.write(x, "nonsense");
        fault(x, "ahead of any, with a tape", 0, -1);
        x.reign(0);
        fault(x, "a fault at the first byte", 1, 0);
        Check.reign(x, 0, "home;home if posts=1;");
        fault(x, "a fault of a subject", 2, 13);
        x.feed(0, 0, 0, 0, 0);
        x.end(5);
        x.end(0);
        fault(x, "the tape is no reign", 2, 13);
        x.reign(0);
        fault(x, "a sound one", 0, -1);
        Check.reign(x, 0, "home");
        fault(x, "the text's length", 1, 4);
        check.due("a sound one at no time", Check.reign(x, -1, "home;"), -2);
        fault(x, "a sound one at no time", 0, -1);
        check.due("a faulty one at no time", Check.reign(x, 10000000, "low worth if rank=1;"), -1);
        fault(x, "a faulty one at no time", 2, 13);
        for (int i = 1; i < 6; i++) {
            x.reign(0);
        }
        fault(x, "a sixth", 0, -1);
        check.due("a faulty 7th", Check.reign(x, 0, "a"), -1);
        fault(x, "a faulty 7th", 1, 0);
        check.due("a sound 7th", Check.reign(x, 0, "home;"), -2);
        fault(x, "a sound 7th", 0, -1);
    }

    private static void fault(PaperChancery x, String which, int fault, int place) {
        check.due("fault(0) of " + which, x.fault(0), fault);
        check.due("fault(1) of " + which, x.fault(1), place);
    }

    private static void noOtherWhat() {
        check.sentence("8: NONE for another what");
        PaperChancery x = new PaperChancery();
        for (int round = 0; round < 2; round++) {
            for (int what : new int[] {-1, 2, 3, Integer.MIN_VALUE, Integer.MAX_VALUE}) {
                check.due("fault(" + what + ")", x.fault(what), -1);
            }
            Check.reign(x, 0, "home if rank=1;");
        }
        fault(x, "what was asked for ahead of that", 2, 8);
    }

    private static void blanksWhereOneLikes() {
        check.sentence("III: with blanks (10, 32) between where one likes");
        String[] tokens = {"low", "date", "if", "worth", "<", "1", "and", "diocese", "=", "2", ";"};
        for (String blank : new String[] {" ", "\n", " \n", "\n\n  \n"}) {
            sound(blank + String.join(blank, tokens) + blank, 1);
            sound(blank, 0);
            sound("home" + blank + ";" + blank + "home" + blank + ";", 2);
        }
        for (int other = 0; other < 256; other++) {
            boolean blank = other == 10 || other == 32;
            boolean letter = other >= 'a' && other <= 'z';
            String it = "" + (char) other;
            text(it, blank ? 0 : -1, blank ? 0 : 1, blank ? -1 : 0);
            text(it + "home;", blank ? 1 : -1, blank ? 0 : 1, blank ? -1 : 0);
            text("home" + it + ";", blank ? 1 : -1, blank ? 0 : 1, blank ? -1 : letter ? 0 : other == ';' ? 5 : 4);
            text("home;" + it, blank ? 1 : -1, blank ? 0 : 1, blank ? -1 : 5);
        }
    }

    private static void wordsAndNumbersSideBySide() {
        check.sentence("III: two words, or two numbers, side by side need one");
        faulty("highrank;", 0);
        faulty("lowdate;", 0);
        faulty("witha;", 0);
        faulty("barworth=1;", 0);
        faulty("homeif worth=1;", 0);
        faulty("home ifworth=1;", 5);
        faulty("low dateif worth=1;", 4);
        faulty("with aif worth=1;", 5);
        faulty("home if worth=1 anddiocese=1;", 16);
        faulty("bar worth=1 2;", 12);
        faulty("bar worth=1\n2;", 12);
        sound("bar worth=1and diocese=2and rank=3;", 1);
        sound("with\na\nif\nworth=1\nand\ndiocese=1;", 1);
        sound("bar worth<1and worth>0000001and worth=1;", 1);
    }

    private static void keys() {
        check.sentence("III: RULE: KEY, or KEY if TESTS, or bar TESTS. KEY: with LETTER; home; high SUBJECT; low SUBJECT");
        String[] subjects = {"worth", "diocese", "degree", "rank", "posts", "date", "days"};
        for (String subject : subjects) {
            sound("high " + subject + ";low " + subject + ";bar " + subject + "=1;", 3);
            sound("high " + subject + " if worth=1;low " + subject + " if diocese=1;", 2);
            faulty(subject + ";", 0);
            faulty("with " + subject + ";", 5);
            faulty("home " + subject + ";", 5);
            faulty("high " + subject + " " + subject + ";", 6 + subject.length());
            faulty("bar " + subject + ";", 4 + subject.length());
        }
        for (String word : new String[] {"with", "home", "high", "low", "bar", "if", "and"}) {
            faulty("high " + word + ";", 5);
            faulty("with " + word + ";", 5);
            faulty("bar " + word + "=1;", 4);
            faulty("home if " + word + "=1;", 8);
            faulty("home if worth=1 and " + word + "=1;", 20);
        }
        faulty("if worth=1;", 0);
        faulty("and worth=1;", 0);
        faulty("home and worth=1;", 5);
        faulty("bar if worth=1;", 4);
        faulty("bar worth=1 if worth=1;", 12);
        faulty("home if worth=1 if worth=1;", 16);
        faulty("home if worth=1 and and worth=1;", 20);
        faulty("home if;", 7);
        faulty("bar;", 3);
        faulty("high;", 4);
        faulty("with;", 4);
        faulty(";", 0);
        faulty("home;;", 5);
    }

    private static void letters() {
        check.sentence("III: LETTERS a to h");
        for (int letter = 0; letter < 256; letter++) {
            String text = "with " + (char) letter + ";";
            if (letter >= 'a' && letter <= 'h') {
                sound(text, 1);
            } else {
                faulty(text, letter == 10 || letter == 32 ? 6 : 5);
            }
        }
        faulty("with aa;", 5);
        faulty("with ah;", 5);
        faulty("with a b;", 7);
        faulty("with a1;", 6);
        for (int bit = 0; bit < 8; bit++) {
            PaperChancery x = Check.house(2, 1);
            x.paper(0, 0, 255 - (1 << bit), 0, 1, 1);
            x.paper(1, 0, 1 << bit, 0, 1, 1);
            Check.reign(x, 0, "with " + (char) ('a' + bit) + ";");
            check.due("who has clause " + (char) ('a' + bit), x.by(0, 0, 0, 1), -1);
        }
    }

    private static void numbers() {
        check.sentence("III: NUMBERS: 1 to 7 digits; an 8th digit at itself");
        faulty("bar worth=;", 10);
        faulty("bar worth= ;", 11);
        for (int digits = 1; digits <= 7; digits++) {
            sound("bar worth=" + "9".repeat(digits) + ";", 1);
            sound("bar worth=" + "0".repeat(digits) + ";", 1);
        }
        for (int digits = 8; digits <= 30; digits++) {
            faulty("bar worth=" + "9".repeat(digits) + ";", 17);
            faulty("bar worth=" + "0".repeat(digits) + ";", 17);
        }
        faulty("bar worth=12345678", 17);
        faulty("bar worth=1234567", 17);
        faulty("home if worth=1 and diocese=00000001;", 35);
        for (int digit = 0; digit < 256; digit++) {
            String text = "bar worth=" + (char) digit + ";";
            if (digit >= '0' && digit <= '9') {
                sound(text, 1);
            } else {
                faulty(text, digit == 10 || digit == 32 ? 11 : 10);
            }
        }
        faulty("bar 5=5;", 4);
        faulty("12345678;", 0);
        faulty("bar worth=-1;", 10);
        faulty("bar worth=1.5;", 11);
    }

    private static void signs() {
        check.sentence("III: SIGN: < or > or =");
        for (int sign = 0; sign < 256; sign++) {
            String text = "bar worth" + (char) sign + "5;";
            boolean isLetter = sign >= 'a' && sign <= 'z';
            if (sign == '<' || sign == '>' || sign == '=') {
                sound(text, 1);
            } else {
                faulty(text, sign == 10 || sign == 32 ? 10 : isLetter ? 4 : 9);
            }
        }
        faulty("bar worth<=5;", 10);
        faulty("bar worth==5;", 10);
        faulty("bar worth<>5;", 10);
        faulty("bar worth 5;", 10);
        faulty("bar <5;", 4);
    }

    /** Cuts a text at each place: inside a word it is that word which is wrong, else the text ends too soon. */
    private static void textsThatEndTooSoon() {
        check.sentence("III: at the text's length, if it ends too soon");
        String text = "home;low  date if worth < 12 and\ndiocese=2;bar days>1234567 and rank=0;with h;";
        int rules = 0;
        for (int cut = 0; cut < text.length(); cut++) {
            int wordStart = cut;
            while (wordStart > 0 && Character.isLetter(text.charAt(wordStart - 1))) {
                wordStart--;
            }
            boolean insideAWord = wordStart < cut && Character.isLetter(text.charAt(cut));
            if (cut > 0 && text.charAt(cut - 1) == ';') {
                rules++;
            }
            String head = text.substring(0, cut);
            if (cut == 0 || text.charAt(cut - 1) == ';') {
                sound(head, rules);
            } else {
                faulty(head, insideAWord ? wordStart : cut);
            }
        }
        faulty("home  \n", 7);
        faulty("bar worth=1 and   ", 18);
        faulty("home;home ", 10);
    }

    private static void wordsWholeAtTheirFirstByte() {
        check.sentence("III: words and numbers whole, at their first byte");
        for (String word : new String[] {"with", "home", "high", "low", "bar"}) {
            faulty("home; " + word + "s h;", 6);
            faulty("home; x" + word + " h;", 6);
            faulty("home; " + word.substring(1) + " h;", 6);
            faulty("home; " + word.substring(0, word.length() - 1) + " h;", 6);
            faulty("home; " + word.substring(0, word.length() - 1) + "q h;", 6);
            faulty("home; q" + word.substring(1) + " h;", 6);
            faulty("home; " + word + word + " h;", 6);
            faulty("home; " + word.toUpperCase(java.util.Locale.ROOT) + " h;", 6);
        }
        for (String word : new String[] {"worth", "diocese", "degree", "rank", "posts", "date", "days"}) {
            faulty("bar " + word + "s=1;", 4);
            faulty("bar x" + word + "=1;", 4);
            faulty("bar " + word.substring(1) + "=1;", 4);
            faulty("bar " + word.substring(0, word.length() - 1) + "=1;", 4);
            faulty("bar " + word.substring(0, word.length() - 1) + "q=1;", 4);
            faulty("bar q" + word.substring(1) + "=1;", 4);
            faulty("low " + word + word + ";", 4);
            faulty("home if " + word + "s=1;", 8);
        }
        for (String word : new String[] {"i", "ig", "iff", "fi", "an", "ands", "amd", "nd"}) {
            faulty("home " + word + " worth=1;", 5);
            faulty("bar worth=1 " + word + " worth=1;", 12);
        }
        faulty("home 1234567;", 5);
        faulty("home 12345678;", 5);
        faulty("bar worth=1 2345678;", 12);
        faulty("abcdefghijklmnopqrstuvwxyz".repeat(8) + ";", 0);
        faulty("with " + "a".repeat(300) + ";", 5);
    }

    private static void noByteWithWhichNoTextGoesOn() {
        check.sentence("III: 1 the first byte with which no TEXT goes on");
        String text = "home ; low date if worth < 12 and diocese = 2 ; bar days > 1 ;";
        for (int place = 0; place <= text.length(); place++) {
            boolean between = place == 0 || place == text.length() || text.charAt(place - 1) == ' ' || text.charAt(place) == ' ';
            for (int stray : new int[] {0, 9, 11, 13, 31, 33, '+', ',', '-', ':', '?', '@', 'A', 'Z', '[', '`', '{', 127, 128, 160, 255}) {
                String spoilt = text.substring(0, place) + (char) stray + text.substring(place);
                int wordStart = place;
                while (wordStart > 0 && Character.isLetter(text.charAt(wordStart - 1))) {
                    wordStart--;
                }
                faulty(spoilt, between || wordStart == place ? place : wordStart);
            }
        }
    }

    private static void theSeventeenthRule() {
        check.sentence("III: a 17th RULE at its first byte");
        String sixteen = "home;".repeat(16);
        sound(sixteen, 16);
        sound(sixteen + " \n ", 16);
        faulty(sixteen + "home;", 80);
        faulty(sixteen + " \nhome;", 82);
        faulty(sixteen + "bar worth=1;", 80);
        faulty(sixteen + "home", 80);
        faulty(sixteen + "home if rank=1;", 80);
        faulty(sixteen + "nonsense;", 80);
        faulty(sixteen + ";", 80);
        faulty(sixteen + "home;home;", 80);
        faulty("bar worth=1;".repeat(16) + "home;", 192);
        faulty("home;bar worth=1;".repeat(8) + "bar worth=1;", 136);
        faulty("home;".repeat(15) + "hom;home;", 75);
        faulty("home;".repeat(15) + "home if;home;", 82);
        text("home;".repeat(15) + "home if rank=1;home;", -1, 2, 83);
    }

    private static void otherSubjectsBehindIf() {
        check.sentence("III: 2 another SUBJECT than worth and diocese in TESTS behind if, at its first byte");
        sound("home if worth=1;", 1);
        sound("home if diocese=1;", 1);
        sound("home if worth=1 and diocese=1 and worth=1;", 1);
        for (String subject : new String[] {"degree", "rank", "posts", "date", "days"}) {
            text("home if " + subject + "=1;", -1, 2, 8);
            text("home if  \n" + subject + "=1;", -1, 2, 10);
            text("with a if " + subject + "=1;", -1, 2, 10);
            text("high " + subject + " if " + subject + "=1;", -1, 2, 9 + subject.length());
            text("home if worth=1 and " + subject + "=1;", -1, 2, 20);
            text("home if diocese=1and " + subject + "=1 and worth=1;", -1, 2, 21);
            text("home if " + subject, -1, 2, 8);
            text("home;bar rank=1;home if " + subject + ";", -1, 2, 24);
            sound("bar " + subject + "=1 and worth=1;", 1);
            sound("bar worth=1 and " + subject + "=1;", 1);
            sound("home if worth=1;bar " + subject + "=1;", 2);
        }
    }

    private static void theFirstFaultAlongTheText() {
        check.sentence("III: FAULTS, the first along the text");
        text("home if rank=1;nonsense;", -1, 2, 8);
        text("nonsense;home if rank=1;", -1, 1, 0);
        text("home if worth 1 and rank=1;", -1, 1, 14);
        text("home if rank 1;", -1, 2, 8);
        text("home if rank=12345678;", -1, 2, 8);
        text("home if worth=12345678 and rank=1;", -1, 1, 21);
        text("home if worth=1 rank=1;", -1, 1, 16);
        text("home if rank=1 and posts=1;", -1, 2, 8);
        text("home!home?", -1, 1, 4);
    }

    private static void theLongestText() {
        check.sentence("2, III: a text of 400 bytes");
        String many = "bar days=1" + "and days=1".repeat(38);
        sound(many + "         ;", 1);
        faulty(many + "          ", 400);
        faulty(many + "and days=1", 400);
        faulty(many + "         !", 399);
        faulty(" ".repeat(396) + "home", 400);
        sound(" ".repeat(395) + "home;", 1);
        sound("home;" + " ".repeat(395), 1);
        faulty("home;" + " ".repeat(394) + "a", 399);
        faulty(";".repeat(400), 0);
        faulty("a".repeat(400), 0);
        faulty("1".repeat(400), 0);
        text("home if " + " ".repeat(388) + "rank", -1, 2, 396);
    }

    /** What a text had, sound or faulty, is not in the next one, nor does it take room from it. */
    private static void textsOneBehindTheOther() {
        check.sentence("7: The tape is the TEXT of a REIGN: of that one alone");
        PaperChancery x = Check.house(2, 1);
        x.seat(0, 0);
        x.paper(1, 0, 1, 1, 1, 1000);
        String many = "bar worth>0" + "and worth>0".repeat(33);
        for (int i = 0; i < 5; i++) {
            check.due("many tests that end too soon", Check.reign(x, 0, many + "and worth<5"), -1);
        }
        check.due("many tests that hold", Check.reign(x, 1, many + ";"), 1);
        check.due("and one that does not", Check.reign(x, 2, many + "and worth<5;"), 1);
        check.due("sixteen bars", Check.reign(x, 3, "bar worth<1;".repeat(15) + "bar worth>99;"), 16);
        check.due("the same signs and numbers, but for one", Check.reign(x, 4, "bar worth<1;".repeat(15) + "bar worth=99;"), 16);
        check.due("one of them", Check.reign(x, 5, "bar worth=100;"), 1);
        check.due("none", x.reign(6), 0);
        int[] claims = {1, 0, 1, 0, 1, 0, 1};
        for (int time = 0; time < claims.length; time++) {
            check.due("claims at " + time, x.claims(0, time), claims[time]);
        }
    }
}
