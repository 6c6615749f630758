import java.util.ArrayList;
import java.util.List;
import java.util.Random;

/** All promises: random runs of up to 512 calls, each answer beside that of the model. */
public final class ModelTest {
    private static final Check check = new Check();
    private static final int[] NO_CLAIMS = {};
    private static final String[] SUBJECTS = {"worth", "diocese", "degree", "rank", "posts", "date", "days"};

    private final Random random;
    private final String name;
    private final Model model = new Model();
    private final PaperChancery x = new PaperChancery();
    private final int span;
    private int asKnown = -1;
    private int[] claims = NO_CLAIMS;
    private int[] got = {};
    private int calls;

    private ModelTest(int seed) {
        random = new Random(seed);
        name = "seed " + seed + ": ";
        int[] spans = {3, 30, 20000, 9999999};
        span = spans[seed % spans.length];
    }

    public static void main(String[] args) {
        for (int seed = 0; seed < 400; seed++) {
            new ModelTest(seed).run();
        }
        check.finish();
    }

    private void run() {
        int persons = 1 + random.nextInt(10);
        int posts = 1 + random.nextInt(8);
        for (int i = 0; i < persons; i++) {
            person();
        }
        for (int i = 0; i < posts; i++) {
            post();
            if (random.nextInt(3) > 0) {
                seat();
            }
        }
        int tells = 5 + random.nextInt(40);
        while (calls < 480) {
            if (random.nextInt(100) < tells) {
                change();
            } else {
                ask();
            }
        }
    }

    private void due(String call, long answer, long want) {
        calls++;
        check.due(name + call, answer, want);
    }

    private int known() {
        return asKnown < 0 ? model.news.size() : asKnown;
    }

    private int time() {
        return random.nextInt(60) == 0 ? (random.nextBoolean() ? -1 : 10000000) : random.nextInt(span + 1);
    }

    private static boolean isTime(int time) {
        return time >= 0 && time <= 9999999;
    }

    /** A number of one that there is, seldom of one that there is not. */
    private int one(int count) {
        return count == 0 || random.nextInt(40) == 0 ? (random.nextBoolean() ? -1 : count) : random.nextInt(count);
    }

    private int person() {
        int degree = random.nextInt(10);
        int rank = random.nextInt(4);
        int diocese = random.nextInt(3);
        boolean full = model.persons.size() == 24;
        due("person", x.person(degree, rank, diocese), full ? -1 : model.persons.size());
        if (!full) {
            model.persons.add(new Model.Person(degree, rank, diocese));
            model.wishes.add(new ArrayList<>());
        }
        return 0;
    }

    private void post() {
        int diocese = random.nextInt(3);
        int worth = 100 * (1 + random.nextInt(5));
        boolean full = model.posts.size() == 16;
        due("post", x.post(diocese, worth), full ? -1 : model.posts.size());
        if (!full) {
            model.posts.add(new Model.Post(diocese, worth));
        }
    }

    private void seat() {
        int post = one(model.posts.size());
        int person = random.nextInt(6) == 0 ? -1 : one(model.persons.size());
        boolean can = post >= 0 && post < model.posts.size() && person < model.persons.size() && model.news.isEmpty();
        due("seat", x.seat(post, person) ? 1 : 0, can ? 1 : 0);
        if (can) {
            model.seats.remove(post);
            if (person >= 0) {
                model.seats.put(post, person);
            }
        }
    }

    private void tell(char kind, int answer, int time, int a, int b, boolean can) {
        int number = model.news.size() + 1;
        boolean told = can && number <= 160;
        due("news " + kind, answer, told ? number : -1);
        if (told) {
            model.news.add(new Model.News(number, kind, time, a, b));
        }
    }

    private void change() {
        int person = one(model.persons.size());
        int post = one(model.posts.size());
        int other = one(model.posts.size());
        int time = time();
        boolean isPerson = person >= 0 && person < model.persons.size();
        boolean isPost = post >= 0 && post < model.posts.size();
        boolean isOther = other >= 0 && other < model.posts.size() && other != post;
        int what = random.nextInt(100);
        if (what < 35) {
            paper(person, time, isPerson && isTime(time));
        } else if (what < 50) {
            tell('D', x.death(person, time), time, person, -1, isPerson && isTime(time));
        } else if (what < 68) {
            tell('R', x.resign(post, person, time), time, post, person, isPost && isPerson && isTime(time));
        } else if (what < 78) {
            tell('S', x.swap(post, other, time), time, post, other, isPost && isOther && isTime(time));
        } else if (what < 86) {
            int paper = one(model.papers.size());
            boolean can = paper >= 0 && paper < model.papers.size()
                    && model.news.stream().noneMatch(n -> n.kind() == 'V' && n.a() == paper);
            tell('V', x.disprove(paper), -1, paper, -1, can);
        } else if (what < 94) {
            reign(time);
        } else if (what < 96) {
            person();
        } else if (what < 98) {
            post();
        } else {
            seat();
        }
    }

    private void paper(int person, int date, boolean can) {
        int clauses = random.nextInt(256);
        int dioceses = random.nextInt(4) == 0 ? random.nextInt(256) : 255;
        int least = 1 + random.nextInt(300);
        int most = least + random.nextInt(1001 - least);
        int number = model.papers.size();
        int news = model.news.size() + 1;
        boolean room = number < 48;
        tell('P', x.paper(person, date, clauses, dioceses, least, most), date, number, -1, can && room);
        if (model.news.size() == news) {
            model.papers.add(new Model.Paper(number, news, person, date, clauses, dioceses, least, most));
        }
    }

    private String tests(List<Model.Test> tests, int subjects) {
        StringBuilder text = new StringBuilder();
        int count = 1 + random.nextInt(2);
        for (int i = 0; i < count; i++) {
            int subject = random.nextInt(subjects);
            int[] ranges = {600, 3, 10, 4, 4, span, 8};
            Model.Test test = new Model.Test(SUBJECTS[subject], "<>=".charAt(random.nextInt(3)),
                    random.nextInt(ranges[subject]));
            tests.add(test);
            text.append(i == 0 ? " " : "and ").append(test.subject()).append(test.sign()).append(test.number());
        }
        return text.toString();
    }

    private void reign(int time) {
        List<Model.Rule> rules = new ArrayList<>();
        StringBuilder text = new StringBuilder();
        int count = random.nextInt(5);
        for (int i = 0; i < count; i++) {
            List<Model.Test> tests = new ArrayList<>();
            String[] keys = {"with", "home", "high", "low", "bar"};
            String key = keys[random.nextInt(keys.length)];
            String argument = key.equals("with") ? "" + (char) ('a' + random.nextInt(8))
                    : key.equals("high") || key.equals("low") ? SUBJECTS[random.nextInt(7)] : "";
            text.append(key).append(' ').append(argument);
            if (key.equals("bar")) {
                text.append(tests(tests, 7));
            } else if (random.nextInt(3) == 0) {
                text.append(" if").append(tests(tests, 2));
            }
            text.append(";");
            rules.add(new Model.Rule(key, argument, tests));
        }
        boolean sound = random.nextInt(6) > 0;
        text.append(sound ? "" : "home");
        boolean can = isTime(time) && model.reigns.size() < 6;
        calls += 1 + (text.length() + 19) / 20;
        due("reign of " + text, Check.reign(x, time, text.toString()), !sound ? -1 : can ? count : -2);
        due("fault of " + text, x.fault(0), sound ? 0 : 1);
        due("place in " + text, x.fault(1), sound ? -1 : text.length());
        if (sound && can) {
            model.reigns.add(new Model.Reign(time, rules));
        }
    }

    private void ask() {
        int person = one(model.persons.size());
        int post = one(model.posts.size());
        int time = time();
        boolean isPerson = person >= 0 && person < model.persons.size();
        boolean isPost = post >= 0 && post < model.posts.size();
        switch (random.nextInt(14)) {
            case 0:
                as();
                break;
            case 1:
                due("holder", x.holder(post, time), isPost && isTime(time)
                        ? model.course(known(), time).holder.getOrDefault(post, -1) : -1);
                break;
            case 2: case 3:
                paperOf();
                break;
            case 4:
                due("posts", x.posts(person, time), isPerson && isTime(time)
                        ? model.course(known(), time).count(person) : -1);
                break;
            case 5:
                due("due", x.due(person, time), isPerson && isTime(time)
                        ? model.course(known(), time).due(person) : -1);
                break;
            case 6:
                claims(post, time, isPost && isTime(time));
                break;
            case 7:
                int k = random.nextInt(6) - 1;
                due("claim", x.claim(k), k >= 0 && k < claims.length ? claims[k] : -1);
                break;
            case 8: case 9:
                by(post, time, isPost && isTime(time));
                break;
            case 10:
                due("since", x.since(post), isPost ? model.since(post, known()) : -1);
                break;
            case 11:
                all();
                break;
            case 12:
                wish(person, post, isPerson, isPost);
                break;
            default:
                rings(person);
                break;
        }
    }

    private void as() {
        int news = random.nextInt(3) == 0 ? -1 : random.nextInt(model.news.size() + 3) - 1;
        boolean can = news <= model.news.size();
        due("as", x.as(news) ? 1 : 0, can ? 1 : 0);
        asKnown = can ? news : asKnown;
    }

    private void paperOf() {
        int paper = one(model.papers.size());
        int what = random.nextInt(30) == 0 ? (random.nextBoolean() ? -1 : 4) : random.nextInt(4);
        int want = -2;
        if (paper >= 0 && paper < model.papers.size() && model.papers.get(paper).news() <= known()) {
            Model.State state = model.course(known(), 9999999);
            int[] used = state.used.getOrDefault(paper, new int[] {-1, -1});
            int[] answers = {used[0], used[1], state.live.contains(paper) ? 1 : 0, model.papers.get(paper).news()};
            want = what >= 0 && what < 4 ? answers[what] : -2;
        }
        due("paperOf " + what, x.paperOf(paper, what), want);
    }

    private void claims(int post, int time, boolean can) {
        if (can) {
            Model.State state = model.course(known(), time);
            state.holder.remove(post);
            claims = state.claimants(post).stream().mapToInt(Model.Paper::number).toArray();
        }
        due("claims", x.claims(post, time), can ? claims.length : -1);
        for (int k = 0; can && k <= claims.length && k < 4; k++) {
            due("claim of claims", x.claim(k), k < claims.length ? claims[k] : -1);
        }
    }

    private void by(int post, int time, boolean can) {
        int a = one(model.papers.size());
        int b = one(model.papers.size());
        int want = -1000;
        boolean two = a >= 0 && b >= 0 && a != b && Math.max(a, b) < model.papers.size();
        if (can && two && model.papers.get(Math.max(a, b)).news() <= known()) {
            Model.State state = model.course(known(), time);
            state.holder.remove(post);
            want = state.by(model.papers.get(a), model.papers.get(b), post);
        }
        due("by", x.by(post, time, a, b), want);
    }

    private void all() {
        int what = random.nextInt(9) - 1;
        int free = model.posts.size() - model.course(known(), 9999999).holder.size();
        int[] answers = {-1, model.persons.size(), model.posts.size(), model.papers.size(), model.news.size(),
            model.reigns.size(), free, known(), -1};
        due("all " + what, x.all(what), answers[what + 1]);
    }

    private void wish(int person, int post, boolean isPerson, boolean isPost) {
        if (random.nextInt(5) == 0) {
            due("content", x.content(person), isPerson ? model.wishes.get(person).size() : -1);
            if (isPerson) {
                model.wishes.get(person).clear();
            }
            return;
        }
        boolean can = isPerson && isPost && model.wishes.get(person).size() < 3
                && !model.wishes.get(person).contains(post);
        if (can) {
            model.wishes.get(person).add(post);
        }
        due("wish", x.wish(person, post), can ? model.wishes.get(person).size() : -1);
    }

    private void rings(int person) {
        if (random.nextBoolean()) {
            got = model.rings(known());
            Model.State state = model.course(known(), 9999999);
            int changed = 0;
            for (int i = 0; i < got.length; i++) {
                changed += got[i] >= 0 && state.holder.get(got[i]) != i ? 1 : 0;
            }
            due("rings", x.rings(), changed);
        }
        due("got", x.got(person), person >= 0 && person < got.length ? got[person] : -1);
    }
}
