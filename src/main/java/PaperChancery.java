import java.util.Arrays;

/** A chancery's register of papers that promise the next free post; the document tells what each call does. */
public final class PaperChancery {
    public static final int NONE = -1;

    private static final int MOST_PERSONS = 24;
    private static final int MOST_POSTS = 16;
    private static final int MOST_PAPERS = 48;
    private static final int MOST_NEWS = 160;
    private static final int MOST_REIGNS = 6;
    private static final int MOST_RULES = 16;
    /** A test takes six bytes at least, and four behind it ahead of the next one: 400 bytes hold fewer than 64. */
    private static final int MOST_TESTS = 64;
    private static final int MOST_BYTES = 400;
    private static final int MOST_WISHES = 3;
    private static final int MOST_DIGITS = 7;
    private static final int LAST_TIME = 9999999;
    private static final int DAY = 1440;
    private static final int HIGHEST_GRADE = 9;
    private static final int LAST_DIOCESE = 7;
    private static final int GREATEST_WORTH = 1000;
    private static final int ALL_BITS = 255;

    private static final int NEWS_PAPER = 0;
    private static final int NEWS_DEATH = 1;
    private static final int NEWS_RESIGNATION = 2;
    private static final int NEWS_SWAP = 3;
    private static final int NEWS_VOID = 4;

    // The words stand in the order of their codes, the subjects first, so that a subject's code is its fact's column.
    private static final String WORDS =
            "worth   diocese degree  rank    posts   date    days    with    home    high    low     bar     if      and     ";
    private static final int WORD_WIDTH = 8;
    private static final int WORD_COUNT = 14;
    private static final int WORTH = 0;
    private static final int DIOCESE = 1;
    private static final int DEGREE = 2;
    private static final int RANK = 3;
    private static final int POSTS = 4;
    private static final int DATE = 5;
    private static final int DAYS = 6;
    private static final int WITH = 7;
    private static final int HOME = 8;
    private static final int HIGH = 9;
    private static final int LOW = 10;
    private static final int BAR = 11;
    private static final int IF = 12;
    private static final int AND = 13;
    private static final int LETTER = 14;
    private static final int NUMBER = 15;
    private static final int SIGN = 16;
    private static final int SEMICOLON = 17;
    private static final int STRAY = 18;
    private static final int TEXT_END = 19;

    private static final int AT_HOME = 7;
    private static final int CLAUSES = 8;
    private static final int FACT_COUNT = 9;

    private static final int FAULT_TEXT = 1;
    private static final int FAULT_SUBJECT = 2;

    private static final int BY_NUMBER = 100;
    private static final int NO_SUCH_TWO = -1000;
    private static final int NO_SUCH_PAPER = -2;
    private static final int REIGN_FAULTY = -1;
    private static final int REIGN_REFUSED = -2;

    private final Tape tape;
    private final RuleReader reader;
    private final Roll roll;
    private final PaperBox box;
    private final Gazette gazette;
    private final Reigns reigns;
    private final Course course;
    private final Ends ends;
    private final Exchange exchange;
    private final int[] claimRow;
    private int claimCount;
    private int asKnown;

    public PaperChancery() {
        tape = new Tape();
        reader = new RuleReader(tape);
        roll = new Roll();
        box = new PaperBox();
        gazette = new Gazette();
        reigns = new Reigns();
        course = new Course(roll, box, gazette, reigns);
        ends = new Ends(roll);
        exchange = new Exchange();
        claimRow = new int[MOST_PAPERS];
        asKnown = NONE;
    }

    public int feed(int a, int b, int c, int d, int e) {
        if (!tape.hasRoom()) {
            return NONE;
        }
        tape.append(a);
        tape.append(b);
        tape.append(c);
        tape.append(d);
        tape.append(e);
        return tape.length;
    }

    public boolean end(int n) {
        return tape.cutTo(n);
    }

    public int person(int degree, int rank, int diocese) {
        if (!isWithin(degree, 0, HIGHEST_GRADE) || !isWithin(rank, 0, HIGHEST_GRADE)
                || !isWithin(diocese, 0, LAST_DIOCESE)) {
            return NONE;
        }
        return roll.addPerson(degree, rank, diocese);
    }

    public int post(int diocese, int worth) {
        if (!isWithin(diocese, 0, LAST_DIOCESE) || !isWithin(worth, 1, GREATEST_WORTH)) {
            return NONE;
        }
        return roll.addPost(diocese, worth);
    }

    public boolean seat(int post, int person) {
        if (!roll.isPost(post) || person != NONE && !roll.isPerson(person) || gazette.count > 0) {
            return false;
        }
        roll.putSeat(post, person);
        return true;
    }

    public int reign(int time) {
        // The text is read ahead of all else: its fault is told even where the reign could not be.
        boolean sound = reader.read();
        tape.cutTo(0);
        if (!sound) {
            return REIGN_FAULTY;
        }
        if (!isTime(time) || reigns.count >= MOST_REIGNS) {
            return REIGN_REFUSED;
        }
        reigns.add(time, reader.draft);
        roll.world++;
        return reader.draft.ruleCount;
    }

    public int fault(int what) {
        switch (what) {
            case 0:
                return reader.fault;
            case 1:
                return reader.place;
            default:
                return NONE;
        }
    }

    public int paper(int person, int date, int clauses, int dioceses, int least, int most) {
        boolean canBe = roll.isPerson(person) && isTime(date)
                && isWithin(clauses, 0, ALL_BITS) && isWithin(dioceses, 0, ALL_BITS)
                && isWithin(least, 1, GREATEST_WORTH) && isWithin(most, least, GREATEST_WORTH);
        if (!canBe || box.isFull() || gazette.isFull()) {
            return NONE;
        }
        int number = gazette.add(NEWS_PAPER, date, box.count, NONE);
        box.add(person, date, clauses, dioceses, least, most, number);
        return number;
    }

    public int death(int person, int time) {
        if (!roll.isPerson(person) || !isTime(time)) {
            return NONE;
        }
        return gazette.add(NEWS_DEATH, time, person, NONE);
    }

    public int resign(int post, int favoured, int time) {
        if (!roll.isPost(post) || !roll.isPerson(favoured) || !isTime(time)) {
            return NONE;
        }
        return gazette.add(NEWS_RESIGNATION, time, post, favoured);
    }

    public int swap(int a, int b, int time) {
        if (!roll.isPost(a) || !roll.isPost(b) || a == b || !isTime(time)) {
            return NONE;
        }
        return gazette.add(NEWS_SWAP, time, a, b);
    }

    public int disprove(int paper) {
        if (!box.has(paper) || box.voidedBy[paper] != NONE || gazette.isFull()) {
            return NONE;
        }
        int number = gazette.add(NEWS_VOID, NONE, paper, NONE);
        box.voidedBy[paper] = number;
        return number;
    }

    public boolean as(int news) {
        if (news != NONE && !isWithin(news, 0, gazette.count)) {
            return false;
        }
        asKnown = news;
        return true;
    }

    // ---- the course

    public int holder(int post, int time) {
        if (!roll.isPost(post) || !isTime(time)) {
            return NONE;
        }
        course.tell(knownNow(), time);
        return course.holder[post];
    }

    public int paperOf(int paper, int what) {
        int known = knownNow();
        if (!box.isKnown(paper, known) || !isWithin(what, 0, 3)) {
            return NO_SUCH_PAPER;
        }
        course.tell(known, LAST_TIME);
        switch (what) {
            case 0:
                return course.usedFor[paper];
            case 1:
                return course.usedFor[paper] == NONE ? NONE : course.usedAt[paper] - box.date[paper];
            case 2:
                return course.live[paper] ? 1 : 0;
            default:
                return box.news[paper];
        }
    }

    public int posts(int person, int time) {
        if (!roll.isPerson(person) || !isTime(time)) {
            return NONE;
        }
        course.tell(knownNow(), time);
        return course.held[person];
    }

    public long due(int person, int time) {
        if (!roll.isPerson(person) || !isTime(time)) {
            return NONE;
        }
        course.tell(knownNow(), time);
        return course.earnedBy(person) / DAY;
    }

    public int claims(int post, int time) {
        if (!roll.isPost(post) || !isTime(time)) {
            return NONE;
        }
        course.tell(knownNow(), time);
        claimCount = course.gatherClaims(post, claimRow);
        return claimCount;
    }

    public int claim(int k) {
        return k >= 0 && k < claimCount ? claimRow[k] : NONE;
    }

    public int by(int post, int time, int a, int b) {
        int known = knownNow();
        if (!roll.isPost(post) || !isTime(time) || a == b || !box.isKnown(a, known) || !box.isKnown(b, known)) {
            return NO_SUCH_TWO;
        }
        course.tell(known, time);
        return course.duelWhenFree(a, b, post);
    }

    public int since(int post) {
        if (!roll.isPost(post)) {
            return NONE;
        }
        int last = knownNow();
        for (int news = last; news >= 0; news--) {
            if (!ends.knows(news)) {
                course.tell(news, LAST_TIME);
                ends.keep(news, course.holder);
            }
            if (ends.holderOf(post, news) != ends.holderOf(post, last)) {
                return news + 1;
            }
        }
        return 0;
    }

    public int all(int what) {
        switch (what) {
            case 0:
                return roll.persons;
            case 1:
                return roll.posts;
            case 2:
                return box.count;
            case 3:
                return gazette.count;
            case 4:
                return reigns.count;
            case 5:
                course.tell(knownNow(), LAST_TIME);
                return course.freePosts();
            case 6:
                return knownNow();
            default:
                return NONE;
        }
    }

    // ---- rings

    public int wish(int person, int post) {
        if (!roll.isPerson(person) || !roll.isPost(post)) {
            return NONE;
        }
        return exchange.addWish(person, post);
    }

    public int content(int person) {
        return roll.isPerson(person) ? exchange.dropWishes(person) : NONE;
    }

    public int rings() {
        course.tell(knownNow(), LAST_TIME);
        return exchange.turn(course.holder, roll.posts);
    }

    public int got(int person) {
        return roll.isPerson(person) ? exchange.gained[person] : NONE;
    }

    private int knownNow() {
        return asKnown == NONE ? gazette.count : asKnown;
    }

    private static boolean isWithin(int value, int least, int most) {
        return value >= least && value <= most;
    }

    private static boolean isTime(int time) {
        return time >= 0 && time <= LAST_TIME;
    }

    /** The bytes that wait for a reign. */
    private static final class Tape {
        private final int[] bytes = new int[MOST_BYTES];
        private int length;

        boolean hasRoom() {
            return length + 20 <= MOST_BYTES;
        }

        void append(int number) {
            for (int shift = 24; shift >= 0 && length < bytes.length; shift -= 8) {
                bytes[length] = number >>> shift & 255;
                length++;
            }
        }

        boolean cutTo(int n) {
            if (n < 0 || n > length) {
                return false;
            }
            length = n;
            return true;
        }
    }

    /** The persons and the posts. */
    private static final class Roll {
        private final int[] degree = new int[MOST_PERSONS];
        private final int[] rank = new int[MOST_PERSONS];
        private final int[] home = new int[MOST_PERSONS];
        private int persons;
        private final int[] diocese = new int[MOST_POSTS];
        private final int[] worth = new int[MOST_POSTS];
        private final int[] seated = new int[MOST_POSTS];
        private int posts;
        /** Counts what changes a course that has been told, which later news never do. */
        private int world;

        boolean isPerson(int person) {
            return person >= 0 && person < persons;
        }

        boolean isPost(int post) {
            return post >= 0 && post < posts;
        }

        int addPerson(int itsDegree, int itsRank, int itsHome) {
            if (persons >= MOST_PERSONS) {
                return NONE;
            }
            degree[persons] = itsDegree;
            rank[persons] = itsRank;
            home[persons] = itsHome;
            persons++;
            return persons - 1;
        }

        int addPost(int itsDiocese, int itsWorth) {
            if (posts >= MOST_POSTS) {
                return NONE;
            }
            diocese[posts] = itsDiocese;
            worth[posts] = itsWorth;
            seated[posts] = NONE;
            posts++;
            world++;
            return posts - 1;
        }

        void putSeat(int post, int person) {
            if (isPost(post)) {
                seated[post] = person;
                world++;
            }
        }
    }

    /** The papers, with the news that brought them and those that made them void. */
    private static final class PaperBox {
        private final int[] owner = new int[MOST_PAPERS];
        private final int[] date = new int[MOST_PAPERS];
        private final int[] clauses = new int[MOST_PAPERS];
        private final int[] dioceses = new int[MOST_PAPERS];
        private final int[] least = new int[MOST_PAPERS];
        private final int[] most = new int[MOST_PAPERS];
        private final int[] news = new int[MOST_PAPERS];
        private final int[] voidedBy = new int[MOST_PAPERS];
        private int count;

        boolean isFull() {
            return count >= MOST_PAPERS;
        }

        boolean has(int paper) {
            return paper >= 0 && paper < count;
        }

        boolean isKnown(int paper, int known) {
            return has(paper) && news[paper] <= known;
        }

        boolean isVoid(int paper, int known) {
            return voidedBy[paper] != NONE && voidedBy[paper] <= known;
        }

        void add(int person, int itsDate, int itsClauses, int itsDioceses, int lowest, int highest, int number) {
            if (isFull()) {
                return;
            }
            owner[count] = person;
            date[count] = itsDate;
            clauses[count] = itsClauses;
            dioceses[count] = itsDioceses;
            least[count] = lowest;
            most[count] = highest;
            news[count] = number;
            voidedBy[count] = NONE;
            count++;
        }

        boolean reaches(int paper, int diocese, int worth) {
            return (dioceses[paper] >> diocese & 1) == 1 && worth >= least[paper] && worth <= most[paper];
        }
    }

    /** The news, by number from 1 on, and those that have a time in the order in which they happened. */
    private static final class Gazette {
        private final int[] kind = new int[MOST_NEWS + 1];
        private final int[] time = new int[MOST_NEWS + 1];
        private final int[] first = new int[MOST_NEWS + 1];
        private final int[] second = new int[MOST_NEWS + 1];
        private int count;
        private final int[] order = new int[MOST_NEWS];
        private int ordered;

        boolean isFull() {
            return count >= MOST_NEWS;
        }

        int add(int itsKind, int itsTime, int itsFirst, int itsSecond) {
            if (isFull()) {
                return NONE;
            }
            count++;
            kind[count] = itsKind;
            time[count] = itsTime;
            first[count] = itsFirst;
            second[count] = itsSecond;
            if (itsKind != NEWS_VOID) {
                putInOrder(count);
            }
            return count;
        }

        private void putInOrder(int number) {
            if (ordered >= order.length) {
                return;
            }
            int place = ordered;
            while (place > 0 && time[order[place - 1]] > time[number]) {
                order[place] = order[place - 1];
                place--;
            }
            order[place] = number;
            ordered++;
        }
    }

    /** The rules of one text. */
    private static final class RuleBook {
        private final int[] kind = new int[MOST_RULES];
        /** The clause's bit of a with, the subject of a high or low. */
        private final int[] detail = new int[MOST_RULES];
        private final int[] testsFrom = new int[MOST_RULES];
        private final int[] testsTo = new int[MOST_RULES];
        private int ruleCount;
        private final int[] testSubject = new int[MOST_TESTS];
        private final int[] testSign = new int[MOST_TESTS];
        private final int[] testNumber = new int[MOST_TESTS];
        private int testCount;

        void clear() {
            ruleCount = 0;
            testCount = 0;
        }

        void copyFrom(RuleBook other) {
            System.arraycopy(other.kind, 0, kind, 0, MOST_RULES);
            System.arraycopy(other.detail, 0, detail, 0, MOST_RULES);
            System.arraycopy(other.testsFrom, 0, testsFrom, 0, MOST_RULES);
            System.arraycopy(other.testsTo, 0, testsTo, 0, MOST_RULES);
            System.arraycopy(other.testSubject, 0, testSubject, 0, MOST_TESTS);
            System.arraycopy(other.testSign, 0, testSign, 0, MOST_TESTS);
            System.arraycopy(other.testNumber, 0, testNumber, 0, MOST_TESTS);
            ruleCount = other.ruleCount;
            testCount = other.testCount;
        }

        boolean isFull() {
            return ruleCount >= MOST_RULES;
        }

        void addRule(int itsKind, int itsDetail) {
            if (isFull()) {
                return;
            }
            kind[ruleCount] = itsKind;
            detail[ruleCount] = itsDetail;
            testsFrom[ruleCount] = testCount;
            testsTo[ruleCount] = testCount;
            ruleCount++;
        }

        /** A test of the rule that was added last. */
        void addTest(int subject, int sign, int number) {
            if (testCount >= MOST_TESTS || ruleCount == 0) {
                return;
            }
            testSubject[testCount] = subject;
            testSign[testCount] = sign;
            testNumber[testCount] = number;
            testCount++;
            testsTo[ruleCount - 1] = testCount;
        }

        boolean bars(int[] facts) {
            for (int rule = 0; rule < ruleCount; rule++) {
                if (kind[rule] == BAR && testsHold(rule, facts)) {
                    return true;
                }
            }
            return false;
        }

        /** The rule by which the first is ahead; minus that, minus 1, if the second is; BY_NUMBER if no rule tells. */
        int duel(int[] first, int[] second) {
            for (int rule = 0; rule < ruleCount; rule++) {
                if (kind[rule] != BAR && testsHold(rule, first)) {
                    int mine = standing(rule, first);
                    int theirs = standing(rule, second);
                    if (mine != theirs) {
                        return mine > theirs ? rule : -rule - 1;
                    }
                }
            }
            return BY_NUMBER;
        }

        private boolean testsHold(int rule, int[] facts) {
            for (int test = testsFrom[rule]; test < testsTo[rule]; test++) {
                int value = facts[testSubject[test]];
                int sign = value < testNumber[test] ? -1 : value > testNumber[test] ? 1 : 0;
                if (sign != testSign[test]) {
                    return false;
                }
            }
            return true;
        }

        private int standing(int rule, int[] facts) {
            switch (kind[rule]) {
                case WITH:
                    return facts[CLAUSES] >> detail[rule] & 1;
                case HOME:
                    return facts[AT_HOME];
                case HIGH:
                    return facts[detail[rule]];
                case LOW:
                    return -facts[detail[rule]];
                default:
                    return 0;
            }
        }
    }

    /** The tape's text cut into tokens, each with the place of its first byte; the last one is the text's end. */
    private static final class TokenRow {
        private final Tape tape;
        private final int[] code = new int[MOST_BYTES + 1];
        private final int[] start = new int[MOST_BYTES + 1];
        /** Of a letter its bit, of a number its value, of a sign -1, 0, 1 for less, equal, greater. */
        private final int[] value = new int[MOST_BYTES + 1];
        private int count;

        TokenRow(Tape itsTape) {
            tape = itsTape;
        }

        void scan() {
            count = 0;
            int next = skipBlanks(0);
            while (next < tape.length && count < MOST_BYTES) {
                start[count] = next;
                value[count] = 0;
                // What is taken has one byte at least.
                int behind = Math.max(next + 1, take(next));
                count++;
                next = skipBlanks(behind);
            }
            code[count] = TEXT_END;
            start[count] = tape.length;
            count++;
        }

        private int skipBlanks(int from) {
            int next = from;
            while (next < tape.length && (tape.bytes[next] == ' ' || tape.bytes[next] == '\n')) {
                next++;
            }
            return next;
        }

        private int take(int from) {
            int first = tape.bytes[from];
            if (isLetter(first)) {
                return takeWord(from);
            }
            if (isDigit(first)) {
                return takeNumber(from);
            }
            takeMark(first);
            return from + 1;
        }

        private int takeWord(int from) {
            int next = from;
            while (next < tape.length && isLetter(tape.bytes[next])) {
                next++;
            }
            code[count] = STRAY;
            if (next - from == 1 && tape.bytes[from] <= 'h') {
                code[count] = LETTER;
                value[count] = tape.bytes[from] - 'a';
            }
            for (int word = 0; word < WORD_COUNT && code[count] == STRAY; word++) {
                if (isWord(word, from, next - from)) {
                    code[count] = word;
                }
            }
            return next;
        }

        private boolean isWord(int word, int from, int length) {
            // Each word is shorter than its field, so a blank behind the last letter tells that the word is whole.
            if (length >= WORD_WIDTH) {
                return false;
            }
            int field = word * WORD_WIDTH;
            for (int i = 0; i < length; i++) {
                if (WORDS.charAt(field + i) != tape.bytes[from + i]) {
                    return false;
                }
            }
            return WORDS.charAt(field + length) == ' ';
        }

        /** An 8th digit begins a token of its own: nothing goes on with a number there, so the fault is at itself. */
        private int takeNumber(int from) {
            int next = from;
            code[count] = NUMBER;
            while (next < tape.length && next - from < MOST_DIGITS && isDigit(tape.bytes[next])) {
                value[count] = value[count] * 10 + tape.bytes[next] - '0';
                next++;
            }
            return next;
        }

        private void takeMark(int mark) {
            code[count] = SIGN;
            if (mark == '<') {
                value[count] = -1;
            } else if (mark == '>') {
                value[count] = 1;
            } else if (mark != '=') {
                code[count] = mark == ';' ? SEMICOLON : STRAY;
            }
        }

        private static boolean isLetter(int character) {
            return character >= 'a' && character <= 'z';
        }

        private static boolean isDigit(int character) {
            return character >= '0' && character <= '9';
        }
    }

    /** Reads the tape's text into a draft, up to its first fault. */
    private static final class RuleReader {
        private final TokenRow tokens;
        private final RuleBook draft = new RuleBook();
        private int at;
        private int token;
        private int fault;
        private int place;

        RuleReader(Tape tape) {
            tokens = new TokenRow(tape);
            place = NONE;
        }

        boolean read() {
            fault = 0;
            place = NONE;
            draft.clear();
            tokens.scan();
            at = 0;
            token = tokens.code[0];
            boolean sound = true;
            for (int rule = 0; rule <= MOST_RULES && sound && token != TEXT_END; rule++) {
                sound = readRule();
            }
            return sound;
        }

        private void advance() {
            if (at < tokens.count - 1) {
                at++;
            }
            token = tokens.code[at];
        }

        private boolean failWith(int itsFault) {
            fault = itsFault;
            place = tokens.start[at];
            return false;
        }

        private boolean readRule() {
            if (draft.isFull()) {
                return failWith(FAULT_TEXT);
            }
            if (token == BAR) {
                draft.addRule(BAR, 0);
                advance();
                return readTests(DAYS) && pass(SEMICOLON);
            }
            return readKey() && readCondition() && pass(SEMICOLON);
        }

        private boolean readKey() {
            int kind = token;
            if (kind < WITH || kind > LOW) {
                return failWith(FAULT_TEXT);
            }
            advance();
            if (kind == HOME) {
                draft.addRule(HOME, 0);
                return true;
            }
            if (kind == WITH ? token != LETTER : token > DAYS) {
                return failWith(FAULT_TEXT);
            }
            draft.addRule(kind, kind == WITH ? tokens.value[at] : token);
            advance();
            return true;
        }

        private boolean readCondition() {
            if (token != IF) {
                return true;
            }
            advance();
            return readTests(DIOCESE);
        }

        private boolean readTests(int lastSubject) {
            for (int test = 0; test < MOST_TESTS; test++) {
                if (!readTest(lastSubject)) {
                    return false;
                }
                if (token != AND) {
                    return true;
                }
                advance();
            }
            return failWith(FAULT_TEXT);
        }

        private boolean readTest(int lastSubject) {
            int subject = token;
            if (subject > lastSubject) {
                return failWith(subject > DAYS ? FAULT_TEXT : FAULT_SUBJECT);
            }
            advance();
            int sign = tokens.value[at];
            if (!pass(SIGN)) {
                return false;
            }
            int number = tokens.value[at];
            if (!pass(NUMBER)) {
                return false;
            }
            draft.addTest(subject, sign, number);
            return true;
        }

        private boolean pass(int wanted) {
            if (token != wanted) {
                return failWith(FAULT_TEXT);
            }
            advance();
            return true;
        }
    }

    /** The reigns in the order in which they were told. */
    private static final class Reigns {
        private final int[] from = new int[MOST_REIGNS];
        private final RuleBook[] books = new RuleBook[MOST_REIGNS];
        private final RuleBook noRules = new RuleBook();
        private int count;

        void add(int time, RuleBook rules) {
            if (count >= MOST_REIGNS) {
                return;
            }
            RuleBook book = new RuleBook();
            book.copyFrom(rules);
            from[count] = time;
            books[count] = book;
            count++;
        }

        RuleBook inForceAt(int time) {
            int latest = NONE;
            for (int i = 0; i < count; i++) {
                if (from[i] <= time && (latest == NONE || from[i] >= from[latest])) {
                    latest = i;
                }
            }
            return latest == NONE || books[latest] == null ? noRules : books[latest];
        }
    }

    /** What has come of the news that are known, up to a time. */
    private static final class Course {
        private final Roll roll;
        private final PaperBox box;
        private final Gazette gazette;
        private final Reigns reigns;
        private final int[] holder = new int[MOST_POSTS];
        private final int[] heldFrom = new int[MOST_POSTS];
        private final int[] held = new int[MOST_PERSONS];
        /** Worth times minutes of what each person has held and holds no more. */
        private final long[] earned = new long[MOST_PERSONS];
        private final boolean[] dead = new boolean[MOST_PERSONS];
        private final boolean[] live = new boolean[MOST_PAPERS];
        private final int[] usedFor = new int[MOST_PAPERS];
        private final int[] usedAt = new int[MOST_PAPERS];
        private final int[] facts = new int[FACT_COUNT];
        private final int[] otherFacts = new int[FACT_COUNT];
        private int now;
        private RuleBook rules;
        private int toldWorld;
        private int toldKnown;
        private int toldUntil;

        Course(Roll itsRoll, PaperBox itsBox, Gazette itsGazette, Reigns itsReigns) {
            roll = itsRoll;
            box = itsBox;
            gazette = itsGazette;
            reigns = itsReigns;
            rules = itsReigns.noRules;
            toldWorld = NONE;
        }

        /** Works all anew, unless what is asked for has been told last: news beyond those known do not change it. */
        void tell(int known, int until) {
            if (toldWorld == roll.world && toldKnown == known && toldUntil == until) {
                return;
            }
            begin();
            for (int i = 0; i < gazette.ordered; i++) {
                int number = gazette.order[i];
                if (gazette.time[number] > until) {
                    break;
                }
                if (number <= known) {
                    goTo(gazette.time[number]);
                    happen(number, known);
                }
            }
            goTo(until);
            toldWorld = roll.world;
            toldKnown = known;
            toldUntil = until;
        }

        private void begin() {
            Arrays.fill(held, 0);
            Arrays.fill(earned, 0L);
            Arrays.fill(usedFor, NONE);
            Arrays.fill(usedAt, NONE);
            for (int person = 0; person < MOST_PERSONS; person++) {
                dead[person] = false;
            }
            for (int paper = 0; paper < MOST_PAPERS; paper++) {
                live[paper] = false;
            }
            for (int post = 0; post < MOST_POSTS; post++) {
                holder[post] = NONE;
                heldFrom[post] = 0;
                if (post < roll.posts) {
                    place(post, roll.seated[post]);
                }
            }
        }

        private void goTo(int time) {
            now = time;
            rules = reigns.inForceAt(time);
        }

        private void happen(int number, int known) {
            int first = gazette.first[number];
            int second = gazette.second[number];
            switch (gazette.kind[number]) {
                case NEWS_PAPER:
                    if (!box.isVoid(first, known)) {
                        comeAlive(first);
                    }
                    break;
                case NEWS_DEATH:
                    die(first);
                    break;
                case NEWS_RESIGNATION:
                    leaveTo(first, second);
                    break;
                case NEWS_SWAP:
                    changePlaces(first, second);
                    break;
                default:
                    break;
            }
        }

        private void comeAlive(int paper) {
            if (dead[box.owner[paper]]) {
                return;
            }
            live[paper] = true;
            int best = NONE;
            for (int post = 0; post < roll.posts; post++) {
                if (holder[post] == NONE && (best == NONE || roll.worth[post] > roll.worth[best])
                        && mayClaim(paper, post)) {
                    best = post;
                }
            }
            if (best != NONE) {
                use(paper, best);
            }
        }

        private void die(int person) {
            if (dead[person]) {
                return;
            }
            dead[person] = true;
            for (int paper = 0; paper < box.count; paper++) {
                if (box.owner[paper] == person) {
                    live[paper] = false;
                }
            }
            for (int post = 0; post < roll.posts; post++) {
                if (holder[post] == person) {
                    give(post, NONE);
                    fill(post);
                }
            }
        }

        private void leaveTo(int post, int favoured) {
            if (holder[post] == NONE) {
                return;
            }
            give(post, NONE);
            loadFacts(facts, post, favoured, NONE);
            if (dead[favoured] || rules.bars(facts)) {
                fill(post);
            } else {
                give(post, favoured);
            }
        }

        private void changePlaces(int a, int b) {
            int holderOfA = holder[a];
            int holderOfB = holder[b];
            if (holderOfA != NONE && holderOfB != NONE) {
                give(a, holderOfB);
                give(b, holderOfA);
            }
        }

        private void fill(int post) {
            int best = NONE;
            for (int paper = 0; paper < box.count; paper++) {
                if (mayClaim(paper, post) && (best == NONE || duel(paper, best, post) >= 0)) {
                    best = paper;
                }
            }
            if (best != NONE) {
                use(best, post);
            }
        }

        private void use(int paper, int post) {
            live[paper] = false;
            usedFor[paper] = post;
            usedAt[paper] = now;
            give(post, box.owner[paper]);
        }

        private void give(int post, int person) {
            if (holder[post] != NONE) {
                earned[holder[post]] += (long) roll.worth[post] * (now - heldFrom[post]);
            }
            heldFrom[post] = now;
            place(post, person);
        }

        private void place(int post, int person) {
            if (holder[post] != NONE) {
                held[holder[post]]--;
            }
            holder[post] = person;
            if (person != NONE) {
                held[person]++;
            }
        }

        private boolean mayClaim(int paper, int post) {
            if (!live[paper] || !box.reaches(paper, roll.diocese[post], roll.worth[post])) {
                return false;
            }
            loadFacts(facts, post, box.owner[paper], paper);
            return !rules.bars(facts);
        }

        private int duel(int a, int b, int post) {
            loadFacts(facts, post, box.owner[a], a);
            loadFacts(otherFacts, post, box.owner[b], b);
            int rule = rules.duel(facts, otherFacts);
            return rule == BY_NUMBER && b < a ? -BY_NUMBER - 1 : rule;
        }

        private void loadFacts(int[] row, int post, int person, int paper) {
            row[WORTH] = roll.worth[post];
            row[DIOCESE] = roll.diocese[post];
            row[DEGREE] = roll.degree[person];
            row[RANK] = roll.rank[person];
            row[POSTS] = held[person];
            row[DATE] = paper == NONE ? 0 : box.date[paper];
            row[DAYS] = paper == NONE || now < box.date[paper] ? 0 : (now - box.date[paper]) / DAY;
            row[AT_HOME] = roll.home[person] == roll.diocese[post] ? 1 : 0;
            row[CLAUSES] = paper == NONE ? 0 : box.clauses[paper];
        }

        long earnedBy(int person) {
            long sum = earned[person];
            for (int post = 0; post < roll.posts; post++) {
                if (holder[post] == person) {
                    sum += (long) roll.worth[post] * (now - heldFrom[post]);
                }
            }
            return sum;
        }

        int freePosts() {
            int free = 0;
            for (int post = 0; post < roll.posts; post++) {
                if (holder[post] == NONE) {
                    free++;
                }
            }
            return free;
        }

        /** Puts the claims on the post into the row, the one ahead of all first, as if the post were free. */
        int gatherClaims(int post, int[] row) {
            int keeper = holder[post];
            place(post, NONE);
            int count = 0;
            for (int paper = 0; paper < box.count && count < row.length; paper++) {
                if (mayClaim(paper, post)) {
                    int rank = count;
                    while (rank > 0 && duel(paper, row[rank - 1], post) >= 0) {
                        row[rank] = row[rank - 1];
                        rank--;
                    }
                    row[rank] = paper;
                    count++;
                }
            }
            place(post, keeper);
            return count;
        }

        int duelWhenFree(int a, int b, int post) {
            int keeper = holder[post];
            place(post, NONE);
            int rule = duel(a, b, post);
            place(post, keeper);
            return rule;
        }
    }

    /** Who holds each post at the course's end as known at each news, kept as long as the world stays the same. */
    private static final class Ends {
        private final Roll roll;
        private final int[] holders = new int[(MOST_NEWS + 1) * MOST_POSTS];
        private final int[] worlds = new int[MOST_NEWS + 1];

        Ends(Roll itsRoll) {
            roll = itsRoll;
            Arrays.fill(worlds, NONE);
        }

        boolean knows(int known) {
            return known >= 0 && known <= MOST_NEWS && worlds[known] == roll.world;
        }

        void keep(int known, int[] holder) {
            if (known < 0 || known > MOST_NEWS || holder.length < MOST_POSTS) {
                return;
            }
            System.arraycopy(holder, 0, holders, known * MOST_POSTS, MOST_POSTS);
            worlds[known] = roll.world;
        }

        int holderOf(int post, int known) {
            return roll.isPost(post) && knows(known) ? holders[known * MOST_POSTS + post] : NONE;
        }
    }

    /** The wishes, and what came of them when the rings were last turned. */
    private static final class Exchange {
        private final int[] wishes = new int[MOST_PERSONS * MOST_WISHES];
        private final int[] wishCount = new int[MOST_PERSONS];
        /** The one post of each who is still there; NONE for all others. */
        private final int[] offered = new int[MOST_PERSONS];
        private final int[] target = new int[MOST_PERSONS];
        private final int[] gained = new int[MOST_PERSONS];

        Exchange() {
            Arrays.fill(gained, NONE);
        }

        int addWish(int person, int post) {
            int count = wishCount[person];
            for (int i = 0; i < count; i++) {
                if (wishes[person * MOST_WISHES + i] == post) {
                    return NONE;
                }
            }
            if (count >= MOST_WISHES) {
                return NONE;
            }
            wishes[person * MOST_WISHES + count] = post;
            wishCount[person] = count + 1;
            return count + 1;
        }

        int dropWishes(int person) {
            int count = wishCount[person];
            wishCount[person] = 0;
            return count;
        }

        /** How many get another post than their own. */
        int turn(int[] holder, int posts) {
            Arrays.fill(gained, NONE);
            offerSinglePosts(holder, posts);
            int changed = 0;
            // Each round has a ring, so no more rounds than persons are needed.
            for (int round = 0; round < MOST_PERSONS; round++) {
                pointAll(holder);
                changed += leaveInRings();
            }
            return changed;
        }

        private void offerSinglePosts(int[] holder, int posts) {
            Arrays.fill(offered, NONE);
            for (int person = 0; person < MOST_PERSONS; person++) {
                int count = 0;
                int last = NONE;
                for (int post = 0; post < posts; post++) {
                    if (holder[post] == person) {
                        count++;
                        last = post;
                    }
                }
                offered[person] = count == 1 ? last : NONE;
            }
        }

        private void pointAll(int[] holder) {
            for (int person = 0; person < MOST_PERSONS; person++) {
                target[person] = offered[person] == NONE ? NONE : pointFrom(person, holder);
            }
        }

        private int pointFrom(int person, int[] holder) {
            for (int i = 0; i < wishCount[person]; i++) {
                int wanted = holder[wishes[person * MOST_WISHES + i]];
                if (wanted != NONE && offered[wanted] != NONE) {
                    return wanted;
                }
            }
            return person;
        }

        private int leaveInRings() {
            for (int person = 0; person < MOST_PERSONS; person++) {
                if (target[person] != NONE && isInRing(person)) {
                    gained[person] = offered[target[person]];
                }
            }
            int changed = 0;
            for (int person = 0; person < MOST_PERSONS; person++) {
                if (offered[person] != NONE && gained[person] != NONE) {
                    changed += gained[person] == offered[person] ? 0 : 1;
                    offered[person] = NONE;
                }
            }
            return changed;
        }

        private boolean isInRing(int person) {
            int reached = target[person];
            for (int step = 0; step < MOST_PERSONS && reached != NONE && reached != person; step++) {
                reached = target[reached];
            }
            return reached == person;
        }
    }
}
