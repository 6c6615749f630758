import java.util.ArrayList;
import java.util.Collections;
import java.util.Comparator;
import java.util.HashSet;
import java.util.List;
import java.util.Set;
import java.util.TreeMap;

/** The document's terms once more, in another form and without anything kept from call to call. */
final class Model {
    record Person(int degree, int rank, int diocese) { }

    record Post(int diocese, int worth) { }

    record Paper(int number, int news, int person, int date, int clauses, int dioceses, int least, int most) { }

    record News(int number, char kind, int time, int a, int b) { }

    record Test(String subject, char sign, int number) { }

    record Rule(String key, String argument, List<Test> tests) { }

    record Reign(int time, List<Rule> rules) { }

    final List<Person> persons = new ArrayList<>();
    final List<Post> posts = new ArrayList<>();
    final TreeMap<Integer, Integer> seats = new TreeMap<>();
    final List<Paper> papers = new ArrayList<>();
    final List<News> news = new ArrayList<>();
    final List<Reign> reigns = new ArrayList<>();
    final List<List<Integer>> wishes = new ArrayList<>();

    /** One stretch of time in which a person has held a post. */
    record Tenure(int post, int person, int from, int to) { }

    final class State {
        final TreeMap<Integer, Integer> holder = new TreeMap<>(seats);
        final TreeMap<Integer, Integer> from = new TreeMap<>();
        final List<Tenure> tenures = new ArrayList<>();
        final Set<Integer> dead = new HashSet<>();
        final Set<Integer> live = new HashSet<>();
        final TreeMap<Integer, int[]> used = new TreeMap<>();
        int now;

        int count(int person) {
            return Collections.frequency(holder.values(), person);
        }

        int subject(String name, int post, int person, Paper paper) {
            switch (name) {
                case "worth": return posts.get(post).worth();
                case "diocese": return posts.get(post).diocese();
                case "degree": return persons.get(person).degree();
                case "rank": return persons.get(person).rank();
                case "posts": return count(person);
                case "date": return paper == null ? 0 : paper.date();
                default: return paper == null ? 0 : Math.max(0, now - paper.date()) / 1440;
            }
        }

        boolean hold(List<Test> tests, int post, int person, Paper paper) {
            return tests.stream().allMatch(test -> {
                int value = subject(test.subject(), post, person, paper);
                return test.sign() == '<' ? value < test.number()
                        : test.sign() == '>' ? value > test.number() : value == test.number();
            });
        }

        List<Rule> rules() {
            int time = reigns.stream().mapToInt(Reign::time).filter(t -> t <= now).max().orElse(-1);
            List<Rule> rules = List.of();
            for (Reign reign : reigns) {
                rules = reign.time() == time ? reign.rules() : rules;
            }
            return rules;
        }

        boolean barred(int post, int person, Paper paper) {
            return rules().stream().anyMatch(r -> r.key().equals("bar") && hold(r.tests(), post, person, paper));
        }

        boolean claims(Paper paper, int post) {
            Post wanted = posts.get(post);
            return live.contains(paper.number()) && (paper.dioceses() & 1 << wanted.diocese()) != 0
                    && paper.least() <= wanted.worth() && wanted.worth() <= paper.most()
                    && !barred(post, paper.person(), paper);
        }

        int by(Paper a, Paper b, int post) {
            List<Rule> rules = rules();
            for (int i = 0; i < rules.size(); i++) {
                Rule rule = rules.get(i);
                if (rule.key().equals("bar") || !hold(rule.tests(), post, a.person(), a)) {
                    continue;
                }
                int order = Integer.compare(worthOf(rule, a, post), worthOf(rule, b, post));
                if (order != 0) {
                    return order > 0 ? i : -i - 1;
                }
            }
            return a.number() < b.number() ? 100 : -101;
        }

        private int worthOf(Rule rule, Paper paper, int post) {
            switch (rule.key()) {
                case "with": return paper.clauses() >> rule.argument().charAt(0) - 'a' & 1;
                case "home": return persons.get(paper.person()).diocese() == posts.get(post).diocese() ? 1 : 0;
                case "high": return subject(rule.argument(), post, paper.person(), paper);
                default: return -subject(rule.argument(), post, paper.person(), paper);
            }
        }

        List<Paper> claimants(int post) {
            List<Paper> list = new ArrayList<>();
            for (Paper paper : papers) {
                if (claims(paper, post)) {
                    list.add(paper);
                }
            }
            list.sort((a, b) -> a == b ? 0 : by(a, b, post) >= 0 ? -1 : 1);
            return list;
        }

        void take(int post) {
            Integer person = holder.remove(post);
            if (person != null) {
                tenures.add(new Tenure(post, person, from.getOrDefault(post, 0), now));
            }
        }

        void put(int post, int person) {
            take(post);
            holder.put(post, person);
            from.put(post, now);
        }

        void use(Paper paper, int post) {
            live.remove(paper.number());
            used.put(paper.number(), new int[] {post, now - paper.date()});
            put(post, paper.person());
        }

        void free(int post) {
            take(post);
            List<Paper> list = claimants(post);
            if (!list.isEmpty()) {
                use(list.get(0), post);
            }
        }

        void happen(News what) {
            now = what.time();
            if (what.kind() == 'P') {
                Paper paper = papers.get(what.a());
                if (dead.contains(paper.person())) {
                    return;
                }
                live.add(paper.number());
                int best = -1;
                for (int post = posts.size() - 1; post >= 0; post--) {
                    if (!holder.containsKey(post) && claims(paper, post)
                            && (best < 0 || posts.get(post).worth() >= posts.get(best).worth())) {
                        best = post;
                    }
                }
                if (best >= 0) {
                    use(paper, best);
                }
            } else if (what.kind() == 'D') {
                dead.add(what.a());
                live.removeIf(paper -> papers.get(paper).person() == what.a());
                for (int post = 0; post < posts.size(); post++) {
                    if (holder.getOrDefault(post, -1) == what.a()) {
                        free(post);
                    }
                }
            } else if (holder.containsKey(what.a()) && what.kind() == 'R') {
                take(what.a());
                if (!dead.contains(what.b()) && !barred(what.a(), what.b(), null)) {
                    put(what.a(), what.b());
                } else {
                    free(what.a());
                }
            } else if (what.kind() == 'S' && holder.containsKey(what.a()) && holder.containsKey(what.b())) {
                int a = holder.get(what.a());
                int b = holder.get(what.b());
                put(what.a(), b);
                put(what.b(), a);
            }
        }

        long due(int person) {
            long sum = 0;
            for (Tenure tenure : tenures) {
                if (tenure.person() == person) {
                    sum += (long) posts.get(tenure.post()).worth() * (tenure.to() - tenure.from());
                }
            }
            for (int post : holder.keySet()) {
                if (holder.get(post) == person) {
                    sum += (long) posts.get(post).worth() * (now - from.getOrDefault(post, 0));
                }
            }
            return sum / 1440;
        }
    }

    State course(int known, int until) {
        Set<Integer> voided = new HashSet<>();
        List<News> list = new ArrayList<>();
        for (News one : news) {
            if (one.number() <= known && one.kind() == 'V') {
                voided.add(one.a());
            }
        }
        for (News one : news) {
            boolean left = one.kind() == 'V' || one.kind() == 'P' && voided.contains(one.a());
            if (one.number() <= known && one.time() <= until && !left) {
                list.add(one);
            }
        }
        list.sort(Comparator.comparingInt(News::time).thenComparingInt(News::number));
        State state = new State();
        list.forEach(state::happen);
        state.now = until;
        return state;
    }

    int since(int post, int known) {
        int held = course(known, 9999999).holder.getOrDefault(post, -1);
        int n = known;
        while (n > 0 && course(n - 1, 9999999).holder.getOrDefault(post, -1) == held) {
            n--;
        }
        return n;
    }

    /** What each person gets, -1 for those who hold not just one post: one ring at a time. */
    int[] rings(int known) {
        State state = course(known, 9999999);
        TreeMap<Integer, Integer> own = new TreeMap<>();
        for (int post : state.holder.keySet()) {
            if (state.count(state.holder.get(post)) == 1) {
                own.put(state.holder.get(post), post);
            }
        }
        int[] got = new int[persons.size()];
        java.util.Arrays.fill(got, -1);
        while (!own.isEmpty()) {
            int at = own.firstKey();
            List<Integer> path = new ArrayList<>();
            while (!path.contains(at)) {
                path.add(at);
                int next = at;
                for (int wish : wishes.get(at)) {
                    if (own.containsValue(wish)) {
                        next = state.holder.get(wish);
                        break;
                    }
                }
                at = next;
            }
            List<Integer> ring = path.subList(path.indexOf(at), path.size());
            for (int i = 0; i < ring.size(); i++) {
                got[ring.get(i)] = own.get(ring.get((i + 1) % ring.size()));
            }
            own.keySet().removeAll(ring);
        }
        return got;
    }
}
