import java.math.BigDecimal;
import java.util.ArrayDeque;
import java.util.ArrayList;
import java.util.Arrays;
import java.util.Deque;
import java.util.HashMap;
import java.util.List;
import java.util.Map;
import java.util.NoSuchElementException;

/**
 * The whole document a second time, slowly and plainly: exact fractions in place of scaled numbers,
 * a map of STATES in place of codes, recursion in place of tables. The tests hold the class against it.
 */
final class Model {
    record State(int weeks, List<Integer> steps, int in) { }

    interface Ahead {
        BigDecimal[] at(State s);
    }

    interface Leaf {
        void at(State next, int won, BigDecimal chance);
    }

    record Settled(List<Integer> row, BigDecimal[] worth, BigDecimal gain) { }

    record Kept(Told told, Map<List<Integer>, Integer> rules, List<Integer> prizes) { }

    private static final BigDecimal QUARTER = new BigDecimal("0.25");
    private static final BigDecimal ZERO = BigDecimal.ZERO;

    private final List<Integer> tape = new ArrayList<>();
    private int faultPlace = -1;
    private Told told;
    private Map<List<Integer>, Integer> rules = new HashMap<>();
    private List<Integer> prizes = new ArrayList<>();
    private final Deque<Kept> images = new ArrayDeque<>();
    private final Map<Told, Game> games = new HashMap<>();
    private final Map<State, BigDecimal[]> ruledWorths = new HashMap<>();

    // ---- one RACE and its THE ROWS ----

    static final class Game {
        final Told told;
        final int n;
        private final Map<State, Settled> settled = new HashMap<>();
        private final Map<State, BigDecimal[]> courses = new HashMap<>();

        Game(Told told) {
            this.told = told;
            this.n = told.shops.size();
        }

        static boolean in(State s, int shop) {
            return (s.in >> shop & 1) == 1;
        }

        State beginning() {
            List<Integer> steps = new ArrayList<>();
            for (Told.Shop shop : told.shops) {
                steps.add(shop.steps());
            }
            return new State(told.weeks, steps, (1 << n) - 1);
        }

        boolean over(State s) {
            if (s.weeks == 0 || s.in == 0) {
                return true;
            }
            for (int i = 0; i < n; i++) {
                if (in(s, i) && s.steps.get(i) == 0) {
                    return true;
                }
            }
            return false;
        }

        int next(State s, int shop) {
            int next = 9;
            for (int i = 0; i < n; i++) {
                if (i != shop && in(s, i)) {
                    next = Math.min(next, s.steps.get(i));
                }
            }
            return next;
        }

        List<Integer> doings(State s, int shop) {
            List<Integer> all = new ArrayList<>();
            all.add(0);
            if (in(s, shop)) {
                for (int p = 1; p <= told.shops.get(shop).paces().size(); p++) {
                    all.add(p);
                }
                if (told.leave.at(s.steps.get(shop), next(s, shop), s.weeks)) {
                    all.add(4);
                }
            }
            return all;
        }

        int cost(int shop, int doing) {
            return doing == 0 || doing == 4 ? 0 : told.shops.get(shop).paces().get(doing - 1).cost();
        }

        int chance(State s, int shop, int doing, boolean learning) {
            if (doing == 0 || doing == 4) {
                return 0;
            }
            int chance = told.shops.get(shop).paces().get(doing - 1).chance();
            boolean far = false;
            for (int i = 0; i < n; i++) {
                far |= i != shop && in(s, i) && told.behind > 0 && s.steps.get(shop) - s.steps.get(i) >= told.behind;
            }
            return learning && far ? Math.min(4, chance + told.learn) : chance;
        }

        /** Every end of a week, with its chance. */
        void ends(State s, List<Integer> row, boolean learning, Leaf leaf) {
            ends(s, row, learning, leaf, 0, new ArrayList<>(s.steps), BigDecimal.ONE);
        }

        private void ends(State s, List<Integer> row, boolean learning, Leaf leaf, int shop, List<Integer> steps, BigDecimal chance) {
            if (chance.signum() == 0) {
                return;
            }
            if (shop == n) {
                int in = s.in;
                int won = 0;
                for (int i = 0; i < n; i++) {
                    if (row.get(i) == 4) {
                        in &= ~(1 << i);
                    }
                    if ((in >> i & 1) == 1 && steps.get(i) == 0) {
                        won |= 1 << i;
                    }
                }
                leaf.at(new State(s.weeks - 1, List.copyOf(steps), in), won, chance);
                return;
            }
            BigDecimal p = in(s, shop) ? QUARTER.multiply(BigDecimal.valueOf(chance(s, shop, row.get(shop), learning))) : ZERO;
            ends(s, row, learning, leaf, shop + 1, steps, chance.multiply(BigDecimal.ONE.subtract(p)));
            if (p.signum() > 0) {
                List<Integer> stepped = new ArrayList<>(steps);
                stepped.set(shop, stepped.get(shop) - 1);
                ends(s, row, learning, leaf, shop + 1, stepped, chance.multiply(p));
            }
        }

        int part(State end, int won, int shop) {
            if (!in(end, shop)) {
                return 0;
            }
            if ((won >> shop & 1) == 1) {
                return told.prize / Integer.bitCount(won);
            }
            int fewest = 99;
            for (int i = 0; i < n; i++) {
                if (in(end, i) && end.steps.get(i) > 0) {
                    fewest = Math.min(fewest, end.steps.get(i));
                }
            }
            int many = 0;
            for (int i = 0; i < n; i++) {
                if (in(end, i) && end.steps.get(i) == fewest) {
                    many++;
                }
            }
            return end.steps.get(shop) == fewest ? told.second / many : 0;
        }

        BigDecimal[] value(State s, List<Integer> row, boolean learning, Ahead ahead) {
            BigDecimal[] value = new BigDecimal[n];
            for (int i = 0; i < n; i++) {
                value[i] = BigDecimal.valueOf(-cost(i, row.get(i)));
            }
            ends(s, row, learning, (end, won, chance) -> {
                BigDecimal[] then = won == 0 ? ahead.at(end) : null;
                for (int i = 0; i < n; i++) {
                    BigDecimal one = won == 0 ? then[i] : BigDecimal.valueOf(part(end, won, i));
                    value[i] = value[i].add(chance.multiply(one));
                }
            });
            return value;
        }

        BigDecimal[] nothing() {
            BigDecimal[] zeros = new BigDecimal[n];
            Arrays.fill(zeros, ZERO);
            return zeros;
        }

        List<List<Integer>> allRows(State s) {
            List<List<Integer>> rows = new ArrayList<>();
            rows.add(List.of());
            for (int i = 0; i < n; i++) {
                List<List<Integer>> longer = new ArrayList<>();
                for (List<Integer> row : rows) {
                    for (int d : doings(s, i)) {
                        List<Integer> more = new ArrayList<>(row);
                        more.add(d);
                        longer.add(more);
                    }
                }
                rows = longer;
            }
            return rows;
        }

        static List<Integer> with(List<Integer> row, int shop, int doing) {
            List<Integer> other = new ArrayList<>(row);
            other.set(shop, doing);
            return other;
        }

        Settled settle(State s) {
            Settled known = settled.get(s);
            if (known == null) {
                known = over(s) ? new Settled(java.util.Collections.nCopies(n, 0), nothing(), ZERO) : find(s);
                settled.put(s, known);
            }
            return known;
        }

        private Settled find(State s) {
            Map<List<Integer>, BigDecimal[]> values = new HashMap<>();
            List<List<Integer>> rows = allRows(s);
            for (List<Integer> row : rows) {
                values.put(row, value(s, row, true, e -> settle(e).worth));
            }
            Settled found = null;
            BigDecimal foundSum = ZERO;
            for (List<Integer> row : rows) {
                BigDecimal gain = ZERO;
                BigDecimal sum = ZERO;
                for (int i = 0; i < n; i++) {
                    BigDecimal own = values.get(row)[i];
                    BigDecimal most = own;
                    for (int d : doings(s, i)) {
                        most = most.max(values.get(with(row, i, d))[i]);
                    }
                    gain = gain.add(most.subtract(own));
                    sum = sum.add(own);
                }
                int c = found == null ? -1 : gain.compareTo(found.gain);
                if (c < 0 || c == 0 && sum.compareTo(foundSum) > 0) {
                    found = new Settled(row, values.get(row), gain);
                    foundSum = sum;
                }
            }
            return found;
        }

        long scaled(BigDecimal value, int weeks, int shops) {
            return value.multiply(BigDecimal.valueOf(4).pow(weeks * shops)).longValueExact();
        }

        /** FIRST of each, NOBODY, LATE and WASTE, in this order. */
        BigDecimal[] course(State s) {
            BigDecimal[] all = new BigDecimal[n + 3];
            Arrays.fill(all, ZERO);
            if (courses.containsKey(s)) {
                return courses.get(s);
            }
            courses.put(s, all);
            if (over(s)) {
                all[n] = BigDecimal.ONE;
                return all;
            }
            List<Integer> row = settle(s).row;
            all[n + 1] = BigDecimal.ONE;
            for (int i = 0; i < n; i++) {
                all[n + 2] = all[n + 2].add(BigDecimal.valueOf(cost(i, row.get(i))));
            }
            ends(s, row, true, (end, won, chance) -> {
                if (won == 0) {
                    BigDecimal[] then = course(end);
                    for (int k = 0; k < n + 3; k++) {
                        all[k] = all[k].add(chance.multiply(then[k]));
                    }
                } else {
                    for (int i = 0; i < n; i++) {
                        if ((won >> i & 1) == 1) {
                            all[i] = all[i].add(chance);
                        }
                    }
                }
            });
            return all;
        }

        /** All STATES with STEPS from 1 on; all IN, or with any who may be. */
        List<State> states(boolean allIn) {
            List<State> all = new ArrayList<>();
            State b = beginning();
            for (int w = b.weeks; w >= 1; w--) {
                for (int digits = 1; digits <= 444; digits++) {
                    List<Integer> steps = new ArrayList<>();
                    int rest = digits;
                    boolean ok = true;
                    for (int i = 0; i < n; i++) {
                        steps.add(rest % 10);
                        ok &= rest % 10 >= 1 && rest % 10 <= b.steps.get(i);
                        rest /= 10;
                    }
                    for (int in = allIn ? b.in : 1; ok && rest == 0 && in <= b.in; in++) {
                        all.add(new State(w, steps, in));
                    }
                }
            }
            return all;
        }

        boolean harder(State s) {
            List<Integer> row = settle(s).row;
            for (int i = 0; i < n; i++) {
                for (int j = 0; j < n; j++) {
                    if (s.steps.get(i) > s.steps.get(j) && cost(i, row.get(i)) > cost(j, row.get(j))) {
                        return true;
                    }
                }
            }
            return false;
        }

        /** ANSWER by trying every plan: a DOING for each of own STEPS and weeks. */
        BigDecimal answer(int shop, int doing) {
            State b = beginning();
            int own = b.steps.get(shop);
            int many = told.shops.get(shop).paces().size() + 1;
            int[] plan = new int[own * told.weeks];
            BigDecimal most = null;
            while (true) {
                BigDecimal value = planned(b, shop, doing, plan)[shop];
                most = most == null ? value : most.max(value);
                int k = 0;
                while (k < plan.length && ++plan[k] == many) {
                    plan[k++] = 0;
                }
                if (k == plan.length) {
                    return most;
                }
            }
        }

        private BigDecimal[] planned(State s, int shop, int doing, int[] plan) {
            if (over(s)) {
                return nothing();
            }
            List<Integer> row = new ArrayList<>();
            for (int i = 0; i < n; i++) {
                int d = i == shop ? plan[(s.weeks - 1) * told.shops.get(shop).steps() + s.steps.get(i) - 1] : doing;
                row.add(d <= told.shops.get(i).paces().size() ? d : 0);
            }
            return value(s, row, false, e -> planned(e, shop, doing, plan));
        }

        long plans(int shop) {
            long many = 1;
            for (int i = 0; i < told.shops.get(shop).steps() * told.weeks; i++) {
                many = Math.min(1L << 40, many * (told.shops.get(shop).paces().size() + 1));
            }
            return many;
        }
    }

    // ---- the face ----

    private Game game() {
        return games.computeIfAbsent(told, Game::new);
    }

    private void needRace() {
        if (told == null) {
            throw new IllegalStateException();
        }
    }

    private void needShop(int shop) {
        if (told == null || shop < 0 || shop >= told.shops.size()) {
            throw new NoSuchElementException();
        }
    }

    private static void need(boolean ok) {
        if (!ok) {
            throw new IllegalArgumentException();
        }
    }

    int feed(int a, int b, int c, int d, int e) {
        if (tape.size() + 20 > 500) {
            return -1;
        }
        for (byte one : java.nio.ByteBuffer.allocate(20).putInt(a).putInt(b).putInt(c).putInt(d).putInt(e).array()) {
            tape.add(one & 255);
        }
        return tape.size();
    }

    int race(int n) {
        need(n >= 0 && n <= tape.size());
        int[] text = tape.subList(0, n).stream().mapToInt(x -> x).toArray();
        tape.clear();
        try {
            told = Told.read(text);
            rules = new HashMap<>();
            faultPlace = -1;
            return told.shops.size();
        } catch (Told.Fault f) {
            faultPlace = f.place;
            return f.kind - 10;
        }
    }

    int fault() {
        return faultPlace;
    }

    int told(int what) {
        need(what >= 0 && what <= 6);
        return told == null ? 0
                : new int[] {told.shops.size(), told.weeks, told.prize, told.second, told.learn, told.behind, told.clauses}[what];
    }

    int shop(int shop, int what) {
        needShop(shop);
        need(what >= 0 && what <= 7);
        Told.Shop s = told.shops.get(shop);
        if (what < 2) {
            return what == 0 ? s.steps() : s.paces().size();
        }
        int pace = (what - 2) % 3;
        return pace >= s.paces().size() ? 0 : what < 5 ? s.paces().get(pace).cost() : s.paces().get(pace).chance();
    }

    private State state(int weeks, int steps, int in) {
        State b = game().beginning();
        need(weeks >= 0 && weeks <= told.weeks && steps >= 0 && in >= 0 && in <= b.in);
        List<Integer> list = new ArrayList<>();
        int rest = steps;
        for (int i = 0; i < told.shops.size(); i++) {
            need(rest % 10 <= b.steps.get(i));
            list.add(rest % 10);
            rest /= 10;
        }
        need(rest == 0);
        return new State(weeks, list, in);
    }

    long worth(int weeks, int steps, int in, int shop) {
        needRace();
        needShop(shop);
        State s = state(weeks, steps, in);
        return game().scaled(game().settle(s).worth[shop], weeks, told.shops.size());
    }

    int doing(int weeks, int steps, int in, int shop) {
        needRace();
        needShop(shop);
        return game().settle(state(weeks, steps, in)).row.get(shop);
    }

    long gain(int weeks, int steps, int in) {
        needRace();
        return game().scaled(game().settle(state(weeks, steps, in)).gain, weeks, told.shops.size());
    }

    int unrest() {
        needRace();
        int some = 0;
        for (State s : game().states(false)) {
            some += game().settle(s).gain.signum() != 0 ? 1 : 0;
        }
        return some;
    }

    int rule(int shop, int own, int next, int doing) {
        needShop(shop);
        need(own >= 1 && own <= 4 && (next >= 1 && next <= 4 || next == 9) && doing >= 0 && doing <= 4);
        Integer old = rules.put(List.of(shop, own, next), doing);
        return old == null ? 0 : old;
    }

    int follow() {
        needRace();
        if (told.shops.size() != 2) {
            return -1;
        }
        int changed = 0;
        for (State s : game().states(true)) {
            if (s.weeks == told.weeks) {
                for (int i = 0; i < 2; i++) {
                    int d = game().settle(s).row.get(i);
                    changed += rule(i, s.steps.get(i), s.steps.get(1 - i), d) != d ? 1 : 0;
                }
            }
        }
        return changed;
    }

    private List<Integer> ruledRow(State s) {
        List<Integer> row = new ArrayList<>();
        for (int i = 0; i < told.shops.size(); i++) {
            int d = Game.in(s, i) ? rules.getOrDefault(List.of(i, s.steps.get(i), game().next(s, i)), 0) : 0;
            row.add(game().doings(s, i).contains(d) ? d : 0);
        }
        return row;
    }

    private BigDecimal[] ruled(State s) {
        BigDecimal[] known = ruledWorths.get(s);
        if (known == null) {
            known = game().over(s) ? game().nothing() : game().value(s, ruledRow(s), true, this::ruled);
            ruledWorths.put(s, known);
        }
        return known;
    }

    long judged(int shop) {
        needRace();
        needShop(shop);
        ruledWorths.clear();
        return game().scaled(ruled(game().beginning())[shop], told.weeks, told.shops.size());
    }

    int breaks() {
        needRace();
        ruledWorths.clear();
        int some = 0;
        for (State s : game().states(true)) {
            List<Integer> row = ruledRow(s);
            BigDecimal[] value = ruled(s);
            boolean broken = false;
            for (int i = 0; i < told.shops.size(); i++) {
                for (int d : game().doings(s, i)) {
                    broken |= game().value(s, Game.with(row, i, d), true, this::ruled)[i].compareTo(value[i]) > 0;
                }
            }
            some += broken ? 1 : 0;
        }
        return some;
    }

    /** A RACE with the one SHOP alone. */
    private Game lone(int shop) {
        Told one = told.copy();
        one.shops.clear();
        one.shops.add(told.shops.get(shop));
        return new Game(one);
    }

    long alone(int shop, int weeks, int steps) {
        needRace();
        needShop(shop);
        need(weeks >= 0 && weeks <= told.weeks && steps >= 0 && steps <= told.shops.get(shop).steps());
        return game().scaled(lone(shop).settle(new State(weeks, List.of(steps), 1)).worth[0], weeks, 1);
    }

    int best(int shop, int weeks, int steps) {
        alone(shop, weeks, steps);
        return lone(shop).settle(new State(weeks, List.of(steps), 1)).row.get(0);
    }

    /** Null where too many plans would have to be tried. */
    Long answer(int shop, int doing) {
        needRace();
        needShop(shop);
        need(doing >= 0 && doing <= 3);
        if (game().plans(shop) > 300) {
            return null;
        }
        return game().scaled(game().answer(shop, doing), told.weeks, told.shops.size());
    }

    private long course(Game g, int k) {
        return g.scaled(g.course(g.beginning())[k], g.told.weeks, g.n);
    }

    long first(int shop) {
        needRace();
        if (shop != -1) {
            needShop(shop);
        }
        return course(game(), shop == -1 ? told.shops.size() : shop);
    }

    long late() {
        needRace();
        return course(game(), told.shops.size() + 1);
    }

    long waste() {
        needRace();
        return course(game(), told.shops.size() + 2);
    }

    int harder() {
        needRace();
        return (int) game().states(true).stream().filter(s -> game().harder(s)).count();
    }

    int behind() {
        needRace();
        for (State s : game().states(true)) {
            if (game().harder(s)) {
                int digits = 0;
                for (int i = told.shops.size() - 1; i >= 0; i--) {
                    digits = digits * 10 + s.steps.get(i);
                }
                return 1000 * s.weeks + digits;
            }
        }
        return -1;
    }

    int leavers(int shop) {
        needRace();
        needShop(shop);
        return (int) game().states(true).stream().filter(s -> game().settle(s).row.get(shop) == 4).count();
    }

    private void needTwo(int a, int b) {
        needRace();
        needShop(a);
        needShop(b);
        need(a != b);
    }

    long joined(int shop, int other) {
        needTwo(shop, other);
        Told.Shop a = told.shops.get(shop);
        Told.Shop b = told.shops.get(other);
        List<Told.Pace> paces = new ArrayList<>();
        Told.Pace none = new Told.Pace(0, 0);
        for (int p = 0; p < Math.max(a.paces().size(), b.paces().size()); p++) {
            Told.Pace x = p < a.paces().size() ? a.paces().get(p) : none;
            Told.Pace y = p < b.paces().size() ? b.paces().get(p) : none;
            paces.add(new Told.Pace(x.cost() + y.cost(), Math.max(x.chance(), y.chance())));
        }
        Told.Shop both = new Told.Shop(Math.min(a.steps(), b.steps()), paces);
        Told race = told.copy();
        race.shops.set(shop, both);
        race.shops.remove(other);
        Game g = new Game(race);
        return g.scaled(g.settle(g.beginning()).worth[shop < other ? shop : shop - 1], race.weeks, g.n);
    }

    long sold(int seller, int buyer) {
        needTwo(seller, buyer);
        State b = game().beginning();
        if (!told.sell.at(b.steps.get(seller), game().next(b, seller), b.weeks) || b.steps.get(buyer) < 2) {
            return -1;
        }
        State after = new State(b.weeks, Game.with(b.steps, buyer, b.steps.get(buyer) - 1), b.in);
        BigDecimal[] then = game().settle(after).worth;
        BigDecimal[] now = game().settle(b).worth;
        BigDecimal more = then[seller].add(then[buyer]).subtract(now[seller]).subtract(now[buyer]);
        return game().scaled(more, b.weeks, game().n);
    }

    int offer(int prize) {
        need(prize >= 0 && prize <= 9999);
        if (prizes.size() == 9) {
            return -1;
        }
        prizes.add(prize);
        return prizes.size();
    }

    private Game priced(int prize) {
        Told race = told.copy();
        race.prize = prize;
        return new Game(race);
    }

    int king(int coin) {
        needRace();
        need(coin >= 0 && coin <= 999);
        int choice = -1;
        long least = 0;
        for (int prize : prizes.stream().sorted().toList()) {
            Game g = priced(prize);
            long sum = course(g, g.n + 2) + course(g, g.n + 1) * coin;
            if (choice == -1 || sum < least) {
                choice = prize;
                least = sum;
            }
        }
        return choice;
    }

    int entry(int fee) {
        needRace();
        need(fee >= 0 && fee <= 9999);
        State b = game().beginning();
        for (int k = game().n; k > 0; k--) {
            boolean all = true;
            BigDecimal[] worth = game().settle(new State(b.weeks, b.steps, (1 << k) - 1)).worth;
            for (int i = 0; i < k; i++) {
                all &= worth[i].compareTo(BigDecimal.valueOf(fee)) >= 0;
            }
            if (all) {
                return k;
            }
        }
        return 0;
    }

    int edge() {
        needRace();
        State b = game().beginning();
        for (int p = told.prize + 1; p <= told.prize + 10; p++) {
            if (!priced(p).settle(b).row.equals(game().settle(b).row)) {
                return p;
            }
        }
        return -1;
    }

    int run(int seed, int what) {
        needRace();
        need(what >= 0 && what <= 3);
        State s = game().beginning();
        int paid = 0;
        while (!game().over(s)) {
            List<Integer> row = game().settle(s).row;
            List<Integer> steps = new ArrayList<>(s.steps);
            int in = s.in;
            for (int i = 0; i < game().n; i++) {
                int d = row.get(i);
                if (d == 4) {
                    in -= 1 << i;
                } else if (d != 0) {
                    seed = seed * 1103515245 + 12345;
                    int drawn = (seed >>> 16) % 4;
                    paid += game().cost(i, d);
                    if (drawn < game().chance(s, i, d, true)) {
                        steps.set(i, steps.get(i) - 1);
                    }
                }
            }
            s = new State(s.weeks - 1, steps, in);
        }
        int has = 0;
        for (int i = 0; i < game().n; i++) {
            has += Game.in(s, i) && s.steps.get(i) == 0 ? 1 << i : 0;
        }
        return new int[] {told.weeks - s.weeks, has, paid, s.in}[what];
    }

    int image() {
        if (images.size() == 3) {
            return -1;
        }
        images.push(new Kept(told, new HashMap<>(rules), new ArrayList<>(prizes)));
        return images.size();
    }

    int restore() {
        if (images.isEmpty()) {
            return -1;
        }
        Kept kept = images.pop();
        told = kept.told;
        rules = kept.rules;
        prizes = kept.prizes;
        return images.size();
    }

    int count(int what) {
        return switch (what) {
            case 0 -> (int) rules.values().stream().filter(d -> d != 0).count();
            case 1 -> prizes.size();
            case 2 -> images.size();
            case 3 -> tape.size();
            default -> -1;
        };
    }
}
