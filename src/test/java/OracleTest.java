import java.util.ArrayList;
import java.util.Arrays;
import java.util.Collections;
import java.util.HashMap;
import java.util.LinkedHashSet;
import java.util.List;
import java.util.Map;
import java.util.Random;
import java.util.Set;
import java.util.TreeSet;
import java.util.function.IntSupplier;

/**
 * Random halls (always the same ones) against a slow second telling of the document: groups are sets, ways and rows are
 * written out one by one, and nothing is remembered between calls.
 */
public final class OracleTest {
    private static int wrong = 0;
    private static long asked = 0;

    public static void main(String[] args) {
        Random random = new Random(20261118);
        for (int i = 0; i < 1500; i++) {
            Told told = Told.random(random);
            StrikeHall x = new StrikeHall();
            Tape.feed(x, told.text());
            due(told, "hall", x.hall(told.text().length()), 0);
            compare(x, told, random);
            if (random.nextInt(3) == 0 && told.things < 9) {
                int thing = random.nextInt(told.things);
                due(told, "add", x.add(thing), told.things);
                told = told.withCopy(thing);
                compare(x, told, random);
            }
            if (wrong > 20) {
                break;
            }
        }
        System.out.println("OracleTest: " + asked + " answers, " + wrong + " wrong");
        if (wrong != 0) {
            System.exit(1);
        }
    }

    private static void due(Told told, String call, int got, int want) {
        asked++;
        if (got != want) {
            wrong++;
            System.out.println(told.text() + " (" + told.things + " things now): " + call + " answered " + got + ", due is " + want);
        }
    }

    private static int caught(IntSupplier call) {
        try {
            return call.getAsInt();
        } catch (java.util.NoSuchElementException e) {
            return -99;
        }
    }

    private static void compare(StrikeHall x, Told t, Random random) {
        int m = t.things;
        int n = t.people.size();
        due(t, "count(0)", x.count(0), m);
        due(t, "count(1)", x.count(1), n);
        due(t, "count(2)", x.count(2), t.turns.size());
        due(t, "count(3)", x.count(3), t.law);
        due(t, "count(6)", x.count(6), t.people.stream().mapToInt(p -> p.weight).sum());
        for (int i = 0; i < t.turns.size(); i++) {
            due(t, "turn " + i, x.turn(i), t.turns.get(i));
        }
        for (int who = 0; who < n; who++) {
            for (int thing = 0; thing < m; thing++) {
                due(t, "place " + who + " " + thing, x.place(who, thing), t.people.get(who).place(thing));
            }
        }
        for (int set = 0; set < 1 << n; set++) {
            Set<Integer> people = members(set);
            int wild = set | random.nextInt() << n;
            due(t, "may " + wild, x.may(wild), t.may(people));
            int thing = random.nextInt(m);
            due(t, "keep " + wild + " " + thing, x.keep(wild, thing), bits(t.keep(people, thing)));
            due(t, "strikes " + wild + " " + thing, x.strikes(wild, thing) ? 1 : 0, t.strikes(people, thing) ? 1 : 0);
        }
        int core = t.core();
        due(t, "core", x.core(), core);
        for (int thing = 0; thing < m; thing++) {
            due(t, "striker " + thing, x.striker(thing), t.striker(thing));
            due(t, "grumble 0 " + thing, x.grumble(thing, 0), t.greatest(thing));
            due(t, "grumble 1 " + thing, x.grumble(thing, 1), t.sum(thing));
            due(t, "heads " + thing, x.heads(thing), t.heads(thing));
            due(t, "copy " + thing, x.copy(thing), m == 9 ? -1 : t.withCopy(thing).core());
        }
        due(t, "least", x.least(), t.least());
        due(t, "head 0", x.head(0), t.head());
        due(t, "head 1", x.head(1), t.greatest(t.head()) - t.greatest(t.least()));
        for (int who = 0; who < n; who++) {
            due(t, "without " + who, x.without(who), t.without(who).core());
            due(t, "lie " + who, x.lie(who), t.lie(who));
        }
        List<Integer> rowOfPeople = new ArrayList<>();
        for (int who = 0; who < n; who++) {
            rowOfPeople.add(who);
        }
        Collections.shuffle(rowOfPeople, random);
        int packed = n == 0 ? random.nextInt() : random.nextInt() << (3 * n);
        for (int i = 0; i < n; i++) {
            packed |= rowOfPeople.get(i) << (3 * i);
        }
        due(t, "some " + packed, x.some(packed), t.some(rowOfPeople));
        int anyRow = random.nextInt();
        due(t, "some " + anyRow, caught(() -> x.some(anyRow)), t.someOfNumber(anyRow));
        due(t, "plain", x.plain(), bits(t.plain(t.turns)));
        List<Integer> reversed = new ArrayList<>(t.turns);
        Collections.reverse(reversed);
        due(t, "back", x.back(), bits(t.plain(reversed)));
        t.byRows();
        due(t, "rows 0", x.rows(0), t.rowsSome);
        due(t, "rows 1", x.rows(1), t.rowsAll);
        due(t, "rows 2", x.rows(2), t.rowCount);
        Set<Integer> all = members((1 << m) - 1);
        due(t, "deep", x.deep(), bits(t.deep(all, 0, new HashMap<>())));
        due(t, "first", x.first(), t.turns.isEmpty() ? -1 : t.deepStrike(all, 0, new HashMap<>()));
        int[] trades = t.trades();
        due(t, "trades 0", x.trades(0), trades[0]);
        due(t, "trades 1", x.trades(1), trades[1]);
        compareTies(x, t);
        compareRowsTold(x, t, random);
        due(t, "core again", x.core(), core);
    }

    private static void compareTies(StrikeHall x, Told t) {
        List<List<List<Integer>>> ways = t.ways();
        if (ways == null) {
            for (int what = 0; what < 4; what++) {
                due(t, "ties " + what, x.ties(what), -1);
            }
            due(t, "ask", x.ask(), -1);
            return;
        }
        int inAll = (1 << t.things) - 1;
        int inSome = 0;
        for (List<List<Integer>> way : ways) {
            int core = t.inWay(way).core();
            inAll &= core;
            inSome |= core;
        }
        due(t, "ties 0", x.ties(0), ways.size());
        due(t, "ties 1", x.ties(1), inAll);
        due(t, "ties 2", x.ties(2), ((1 << t.things) - 1) & ~inSome);
        due(t, "ties 3", x.ties(3), inSome & ~inAll);
        due(t, "ask", x.ask(), t.ask(ways));
    }

    private static void compareRowsTold(StrikeHall x, Told t, Random random) {
        for (int row = 0; row < 13; row++) {
            int many = random.nextInt(t.turns.size() + 2);
            long strikes = random.nextLong() << (4 * Math.min(15, many));
            List<Integer> things = new ArrayList<>();
            Set<Integer> remaining = members((1 << t.things) - 1);
            boolean plainly = random.nextBoolean();
            for (int i = 0; i < many; i++) {
                int thing = plainly && i < t.turns.size() ? t.plainStrike(t.turns.get(i), remaining) : random.nextInt(t.things);
                remaining.remove(thing);
                things.add(thing);
                strikes |= (long) thing << (4 * i);
            }
            if (many > 0 && many <= t.turns.size() && random.nextInt(4) == 0) {
                int at = random.nextInt(many);
                int other = random.nextInt(16);
                strikes = strikes & ~(15L << (4 * at)) | (long) other << (4 * at);
                things.set(at, other);
            }
            boolean taken = many <= t.turns.size() && x.count(4) < 12 && things.stream().allMatch(thing -> thing < t.things);
            int number = x.count(4);
            due(t, "row " + many + " " + strikes, x.row(many, strikes), taken ? number : -1);
            if (taken) {
                compareJudge(x, t, number, things);
            }
        }
    }

    private static void compareJudge(StrikeHall x, Told t, int number, List<Integer> things) {
        due(t, "judge 0", x.judge(number, 0), things.size());
        int unlawful = -1;
        for (int i = 0; i < things.size() && unlawful < 0; i++) {
            if (things.subList(0, i).contains(things.get(i))) {
                unlawful = i;
            }
        }
        due(t, "judge 1 " + things, x.judge(number, 1), unlawful);
        int notPlain = -1;
        for (int i = 0; i < things.size() && notPlain < 0; i++) {
            Set<Integer> remaining = members((1 << t.things) - 1);
            remaining.removeAll(things.subList(0, i));
            if (t.plainStrike(t.turns.get(i), remaining) != things.get(i)) {
                notPlain = i;
            }
        }
        due(t, "judge 2 " + things, x.judge(number, 2), notPlain);
        Set<Integer> remaining = members((1 << t.things) - 1);
        remaining.removeAll(things);
        due(t, "judge 3 " + things, x.judge(number, 3), bits(remaining));
        for (int thing = 0; thing < t.things; thing++) {
            x.hold(1, 0, thing);
            x.hold(6, 1, number);
            due(t, "held", x.held(1, 0), 10 + thing);
            due(t, "held", x.held(6, 1), 10 + number);
            due(t, "left " + thing + " " + things, x.left(1, 6), remaining.contains(thing) ? 11 : 10);
        }
    }

    static Set<Integer> members(int bits) {
        Set<Integer> set = new TreeSet<>();
        for (int i = 0; i < 31; i++) {
            if ((bits >> i & 1) == 1) {
                set.add(i);
            }
        }
        return set;
    }

    static int bits(Set<Integer> set) {
        int bits = 0;
        for (int i : set) {
            bits |= 1 << i;
        }
        return bits;
    }

    /** One of the people; its groups are all groups, the last one of things not named among them. */
    static final class Person {
        final int weight;
        final boolean named;
        final List<Set<Integer>> groups;
        final String words;

        Person(int weight, boolean named, List<Set<Integer>> groups, String words) {
            this.weight = weight;
            this.named = named;
            this.groups = groups;
            this.words = words;
        }

        int place(int thing) {
            int ahead = 0;
            for (Set<Integer> group : groups) {
                if (group.contains(thing)) {
                    return ahead;
                }
                ahead += group.size();
            }
            throw new IllegalStateException("thing " + thing + " is in no group");
        }

        Person withOrder(List<Integer> order) {
            List<Set<Integer>> single = new ArrayList<>();
            for (int thing : order) {
                single.add(Set.of(thing));
            }
            return new Person(weight, true, single, words);
        }

        Person withCopy(int thing, int copy) {
            List<Set<Integer>> more = new ArrayList<>();
            for (Set<Integer> group : groups) {
                more.add(group);
                if (group.contains(thing)) {
                    more.add(Set.of(copy));
                }
            }
            return new Person(weight, named, more, words);
        }

        List<List<Integer>> orders() {
            List<List<Integer>> orders = new ArrayList<>();
            orders.add(new ArrayList<>());
            for (Set<Integer> group : groups) {
                List<List<Integer>> longer = new ArrayList<>();
                for (List<Integer> start : orders) {
                    for (List<Integer> more : permutations(new ArrayList<>(group))) {
                        List<Integer> order = new ArrayList<>(start);
                        order.addAll(more);
                        longer.add(order);
                    }
                }
                orders = longer;
            }
            return orders;
        }

        long orderCount() {
            long product = 1;
            for (Set<Integer> group : groups) {
                for (int i = 2; i <= group.size(); i++) {
                    product = Math.min(product * i, 100000);
                }
            }
            return product;
        }
    }

    static List<List<Integer>> permutations(List<Integer> things) {
        List<List<Integer>> all = new ArrayList<>();
        if (things.isEmpty()) {
            all.add(new ArrayList<>());
        }
        for (int i = 0; i < things.size(); i++) {
            List<Integer> rest = new ArrayList<>(things);
            int head = rest.remove(i);
            for (List<Integer> tail : permutations(rest)) {
                List<Integer> whole = new ArrayList<>();
                whole.add(head);
                whole.addAll(tail);
                all.add(whole);
            }
        }
        return all;
    }

    static final class Told {
        int things;
        List<Person> people = new ArrayList<>();
        int law;
        int steps;
        List<Integer> told = new ArrayList<>();
        List<Integer> turns = new ArrayList<>();
        String lawWords = "";
        int rowsSome;
        int rowsAll;
        int rowCount;

        static Told random(Random random) {
            Told t = new Told();
            t.things = 2 + random.nextInt(random.nextInt(4) == 0 ? 8 : 4);
            int n = random.nextInt(random.nextInt(4) == 0 ? 9 : 5);
            boolean alike = random.nextBoolean();
            int tieChance = 2 + random.nextInt(12);
            for (int i = 0; i < n; i++) {
                int weight = alike ? 1 + random.nextInt(3) : 1 + random.nextInt(99);
                t.people.add(randomPerson(random, t.things, weight, tieChance));
            }
            t.law = random.nextInt(3);
            if (t.law == 0) {
                t.lawWords = random.nextBoolean() ? "" : "law parts;";
            } else if (t.law == 1) {
                t.steps = 1 + random.nextInt(alike ? 4 : 80);
                t.lawWords = "law steps " + t.steps + ";";
            } else {
                StringBuilder words = new StringBuilder("law told");
                int many = 1 + random.nextInt(8);
                for (int i = 0; i < many; i++) {
                    t.told.add(random.nextInt(random.nextBoolean() ? 10 : t.things));
                    words.append(' ').append(t.told.get(i));
                }
                t.lawWords = words.append(';').toString();
            }
            if (n > 0) {
                int many = random.nextInt(random.nextInt(5) == 0 ? t.things : Math.min(t.things, 6));
                for (int i = 0; i < many; i++) {
                    t.turns.add(random.nextInt(n));
                }
            }
            return t;
        }

        private static Person randomPerson(Random random, int things, int weight, int tieChance) {
            List<Integer> order = new ArrayList<>(members((1 << things) - 1));
            Collections.shuffle(order, random);
            int naming = random.nextInt(3) == 0 ? random.nextInt(things + 1) : things;
            List<Set<Integer>> groups = new ArrayList<>();
            StringBuilder words = new StringBuilder("person weight " + weight);
            for (int i = 0; i < naming; i++) {
                boolean tied = i > 0 && random.nextInt(tieChance) == 0;
                words.append(i == 0 ? " likes " : tied ? " and " : " over ").append(order.get(i));
                if (!tied) {
                    groups.add(new TreeSet<>());
                }
                groups.get(groups.size() - 1).add(order.get(i));
            }
            if (naming < things) {
                groups.add(new TreeSet<>(order.subList(naming, things)));
            }
            return new Person(weight, naming > 0, groups, words.append(';').toString());
        }

        String text() {
            StringBuilder words = new StringBuilder("things " + baseThings() + ";");
            for (Person person : people) {
                words.append(person.words);
            }
            words.append(lawWords);
            if (!turns.isEmpty()) {
                words.append("turns");
                for (int turn : turns) {
                    words.append(' ').append(turn);
                }
                words.append(';');
            }
            return shortened(words.toString());
        }

        int copies;

        private int baseThings() {
            return things - copies;
        }

        /** Blanks beside a sign count for nothing; without them 8 people of 9 things fit. */
        private static String shortened(String words) {
            return words.length() <= 600 ? words : words.replaceAll(" (over|and|likes|weight) ", "$1").replaceAll("personweight", "person weight");
        }

        Told like() {
            Told t = new Told();
            t.things = things;
            t.people.addAll(people);
            t.law = law;
            t.steps = steps;
            t.told = told;
            t.turns = turns;
            t.lawWords = lawWords;
            t.copies = copies;
            return t;
        }

        Told withCopy(int thing) {
            Told t = like();
            t.people.clear();
            for (Person person : people) {
                t.people.add(person.withCopy(thing, things));
            }
            t.things++;
            t.copies++;
            return t;
        }

        Told without(int who) {
            Told t = like();
            t.people.remove(who);
            return t;
        }

        int may(Set<Integer> set) {
            int weight = set.stream().mapToInt(who -> people.get(who).weight).sum();
            int all = people.stream().mapToInt(p -> p.weight).sum();
            if (set.isEmpty()) {
                return 0;
            }
            int may;
            if (law == 0) {
                may = (int) Math.ceil((double) (things * weight) / all - 1e-9) - 1;
            } else if (law == 1) {
                may = 0;
                while ((may + 1) * steps <= weight) {
                    may++;
                }
            } else {
                may = set.size() <= told.size() ? told.get(set.size() - 1) : told.get(told.size() - 1);
            }
            return may > things - 1 ? things - 1 : may;
        }

        Set<Integer> keep(Set<Integer> set, int end) {
            Set<Integer> kept = members((1 << things) - 1);
            kept.removeIf(thing -> set.stream().anyMatch(who -> people.get(who).place(thing) >= people.get(who).place(end)));
            return kept;
        }

        boolean strikes(Set<Integer> set, int end) {
            return !set.isEmpty() && keep(set, end).size() >= things - may(set);
        }

        int striker(int end) {
            Set<Integer> best = null;
            for (int set = 1; set < 1 << people.size(); set++) {
                Set<Integer> now = members(set);
                if (strikes(now, end) && (best == null || now.size() < best.size()
                    || now.size() == best.size() && new ArrayList<>(now).toString().compareTo(new ArrayList<>(best).toString()) < 0)) {
                    best = now;
                }
            }
            return best == null ? 0 : bits(best);
        }

        /** The same as striker(end) != 0 for every end, with each one's dearer things written down first. */
        int core() {
            int core = 0;
            for (int end = 0; end < things; end++) {
                int[] dearer = new int[people.size()];
                for (int who = 0; who < people.size(); who++) {
                    dearer[who] = bits(keep(Set.of(who), end));
                }
                boolean struck = false;
                for (int set = 1; set < 1 << people.size() && !struck; set++) {
                    int kept = (1 << things) - 1;
                    for (int who = 0; who < people.size(); who++) {
                        kept &= (set >> who & 1) == 1 ? dearer[who] : -1;
                    }
                    struck = Integer.bitCount(kept) > 0 && Integer.bitCount(kept) >= things - may(members(set));
                }
                core |= struck ? 0 : 1 << end;
            }
            return core;
        }

        int plainStrike(int who, Set<Integer> remaining) {
            return remaining.stream().max((a, b) -> {
                int byPlace = Integer.compare(people.get(who).place(a), people.get(who).place(b));
                return byPlace != 0 ? byPlace : Integer.compare(a, b);
            }).get();
        }

        Set<Integer> plain(List<Integer> row) {
            Set<Integer> remaining = members((1 << things) - 1);
            for (int who : row) {
                remaining.remove(plainStrike(who, remaining));
            }
            return remaining;
        }

        int some(List<Integer> row) {
            Set<Integer> remaining = members((1 << things) - 1);
            for (int who : row) {
                for (int i = may(Set.of(who)); i > 0 && remaining.size() > 1; i--) {
                    remaining.remove(plainStrike(who, remaining));
                }
            }
            return bits(remaining);
        }

        int someOfNumber(int number) {
            List<Integer> row = new ArrayList<>();
            for (int i = 0; i < people.size(); i++) {
                int who = number >>> (3 * i) & 7;
                if (who >= people.size() || row.contains(who)) {
                    return -99;
                }
                row.add(who);
            }
            return some(row);
        }

        void byRows() {
            Set<List<Integer>> rows = new LinkedHashSet<>(permutations(turns));
            rowCount = rows.size();
            rowsSome = 0;
            rowsAll = (1 << things) - 1;
            for (List<Integer> row : rows) {
                int end = bits(plain(row));
                rowsSome |= end;
                rowsAll &= end;
            }
        }

        Set<Integer> deep(Set<Integer> remaining, int turn, Map<Set<Integer>, Set<Integer>> memory) {
            if (turn == turns.size()) {
                return remaining;
            }
            Set<Integer> known = memory.get(remaining);
            if (known == null) {
                known = deep(less(remaining, deepStrike(remaining, turn, memory)), turn + 1, memory);
                memory.put(remaining, known);
            }
            return known;
        }

        private static Set<Integer> less(Set<Integer> set, int thing) {
            Set<Integer> rest = new TreeSet<>(set);
            rest.remove(thing);
            return rest;
        }

        int deepStrike(Set<Integer> remaining, int turn, Map<Set<Integer>, Set<Integer>> memory) {
            Person person = people.get(turns.get(turn));
            int best = -1;
            int bestGreatest = 0;
            int bestSum = 0;
            for (int thing : remaining) {
                Set<Integer> end = deep(less(remaining, thing), turn + 1, memory);
                int greatest = end.stream().mapToInt(person::place).max().getAsInt();
                int sum = end.stream().mapToInt(person::place).sum();
                if (best == -1 || greatest < bestGreatest || greatest == bestGreatest && sum < bestSum) {
                    best = thing;
                    bestGreatest = greatest;
                    bestSum = sum;
                }
            }
            return best;
        }

        private int worst(int who, Set<Integer> end) {
            return end.stream().mapToInt(people.get(who)::place).max().getAsInt();
        }

        int lie(int who) {
            if (things > 5) {
                return -1;
            }
            int honest = worst(who, plain(turns));
            for (List<Integer> order : permutations(new ArrayList<>(members((1 << things) - 1)))) {
                Told t = like();
                t.people.set(who, people.get(who).withOrder(order));
                if (worst(who, t.plain(turns)) < honest) {
                    int packed = 0;
                    for (int i = things - 1; i >= 0; i--) {
                        packed = packed * 16 + order.get(i);
                    }
                    return packed;
                }
            }
            return -1;
        }

        int[] trades() {
            int[] answer = {0, -1};
            Set<Integer> before = plain(turns);
            for (int i = 0; i < turns.size(); i++) {
                for (int j = i + 1; j < turns.size(); j++) {
                    List<Integer> changed = new ArrayList<>(turns);
                    Collections.swap(changed, i, j);
                    Set<Integer> after = plain(changed);
                    int a = turns.get(i);
                    int b = turns.get(j);
                    if (a != b && worst(a, after) < worst(a, before) && worst(b, after) < worst(b, before)) {
                        answer[0]++;
                        answer[1] = answer[1] == -1 ? 8 * i + j : answer[1];
                    }
                }
            }
            return answer;
        }

        int greatest(int thing) {
            return people.stream().mapToInt(p -> p.place(thing)).max().orElse(0);
        }

        int sum(int thing) {
            return people.stream().mapToInt(p -> p.place(thing) * p.weight).sum();
        }

        int heads(int thing) {
            return people.stream().filter(p -> p.named && p.groups.get(0).contains(thing)).mapToInt(p -> p.weight).sum();
        }

        int head() {
            int best = 0;
            for (int thing = 0; thing < things; thing++) {
                best = heads(thing) > heads(best) ? thing : best;
            }
            return best;
        }

        int least() {
            int core = core();
            List<Integer> among = new ArrayList<>(members(core == 0 ? (1 << things) - 1 : core));
            among.sort((a, b) -> {
                int[] left = {greatest(a), sum(a), a};
                int[] right = {greatest(b), sum(b), b};
                return Arrays.compare(left, right);
            });
            return among.get(0);
        }

        /** All ways, each an order for each of the people; null if there are more than 240. */
        List<List<List<Integer>>> ways() {
            long product = 1;
            for (Person person : people) {
                product = Math.min(product * person.orderCount(), 100000);
            }
            if (product > 240) {
                return null;
            }
            List<List<List<Integer>>> ways = new ArrayList<>();
            ways.add(new ArrayList<>());
            for (Person person : people) {
                List<List<List<Integer>>> longer = new ArrayList<>();
                for (List<List<Integer>> start : ways) {
                    for (List<Integer> order : person.orders()) {
                        List<List<Integer>> way = new ArrayList<>(start);
                        way.add(order);
                        longer.add(way);
                    }
                }
                ways = longer;
            }
            return ways;
        }

        Told inWay(List<List<Integer>> way) {
            Told t = like();
            for (int who = 0; who < people.size(); who++) {
                t.people.set(who, people.get(who).withOrder(way.get(who)));
            }
            return t;
        }

        int ask(List<List<List<Integer>>> ways) {
            int best = -1;
            int fewest = 99;
            for (int who = 0; who < people.size(); who++) {
                if (people.get(who).groups.stream().noneMatch(group -> group.size() >= 2)) {
                    continue;
                }
                Map<List<Integer>, int[]> byOrder = new HashMap<>();
                for (List<List<Integer>> way : ways) {
                    int core = inWay(way).core();
                    int[] allAndSome = byOrder.computeIfAbsent(way.get(who), order -> new int[] {-1, 0});
                    allAndSome[0] &= core;
                    allAndSome[1] |= core;
                }
                int most = 0;
                for (int[] allAndSome : byOrder.values()) {
                    most = Math.max(most, Integer.bitCount(allAndSome[1] & ~allAndSome[0]));
                }
                if (most < fewest) {
                    fewest = most;
                    best = who;
                }
            }
            return best;
        }
    }
}
