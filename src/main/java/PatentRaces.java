import java.util.NoSuchElementException;

/**
 * The race for a patent, told as a text and worked out in exact whole numbers.
 *
 * <p>Inside, a STATE is a code of base five, SHOP 0 the lowest digit: a digit is the STEPS of a
 * SHOP that is IN, and 0 stands for one that is not. So a STATE that is OVER needs no code of its
 * own: it shares 0, whose WORTH, ROW and GAIN are always 0. A row of DOINGS is a code of base five
 * too, SHOP 0 the highest digit, so that the first row is the least code.
 *
 * <p>Every array is made by a constructor and used again: no call makes an object but what it
 * throws.
 */
public final class PatentRaces {
    public static final int NONE = -1;

    private static final int SHOPS = 3;
    private static final int PACES = 3;
    private static final int STEPS = 4;
    private static final int WEEKS = 6;
    private static final int DOINGS = 5;
    private static final int LEAVE = 4;
    private static final int SURE = 4;
    private static final int NOBODY_NEXT = 9;
    private static final int NEXTS = 5;
    private static final int CASES = 25;
    private static final int STATES = 125;
    private static final int ROWS = 125;
    private static final int MODES = 3;
    private static final int BYTES = 500;
    private static final int FED = 20;
    private static final int HIGHEST = 9999;
    private static final int OFFERS = 9;
    private static final int IMAGES = 3;
    private static final int MOST_COIN = 999;
    private static final int EDGES = 10;
    private static final int[] STATE_UNIT = {1, 5, 25};
    private static final int[] ROW_UNIT = {25, 5, 1};

    private final Reader reader = new Reader();
    private int stamps;
    private final Desk now = new Desk();
    private final Desk[] images = new Desk[IMAGES];
    private int imaged;
    private final Board board = new Board(now.race);
    private final Board ruled = new Board(now.race);
    private boolean ruledStands;
    private final Race variant = new Race();
    private final Board side = new Board(variant);
    private final Course course = new Course();
    private final Unseen unseen = new Unseen(now.race);
    private final Ledger ledger = new Ledger();
    private int edgeStamp;
    private int edgeAnswer = NONE;

    public PatentRaces() {
        for (int i = 0; i < IMAGES; i++) {
            images[i] = new Desk();
        }
    }

    // ---- the text ----

    public int feed(int a, int b, int c, int d, int e) {
        if (reader.fed + FED > BYTES) {
            return NONE;
        }
        reader.takeIn(a);
        reader.takeIn(b);
        reader.takeIn(c);
        reader.takeIn(d);
        reader.takeIn(e);
        return reader.fed;
    }

    public int race(int n) throws IllegalArgumentException {
        if (n < 0 || n > reader.fed) {
            throw new IllegalArgumentException("not so many bytes on the tape");
        }
        int fault = reader.read(n);
        if (fault != 0) {
            return fault - 10;
        }
        stamps++;
        reader.draft.stamp = stamps;
        now.race.copyFrom(reader.draft);
        now.clearRules();
        ruledStands = false;
        return now.race.shops;
    }

    public int fault() {
        return reader.place;
    }

    public int told(int what) throws IllegalArgumentException {
        Race race = now.race;
        switch (what) {
            case 0: return race.shops;
            case 1: return race.weeks;
            case 2: return race.prize;
            case 3: return race.second;
            case 4: return race.learn;
            case 5: return race.behind;
            case 6: return race.clauses;
            default: throw new IllegalArgumentException("no such what");
        }
    }

    public int shop(int shop, int what) throws NoSuchElementException, IllegalArgumentException {
        needShop(shop);
        if (what < 0 || what > 1 + 2 * PACES) {
            throw new IllegalArgumentException("no such what");
        }
        if (what == 0) {
            return now.race.steps[shop];
        }
        if (what == 1) {
            return now.race.paces[shop];
        }
        if (what <= 1 + PACES) {
            return now.race.costOf(shop, what - 1);
        }
        return now.race.chanceOf(shop, what - 1 - PACES);
    }

    // ---- the rows ----

    public long worth(int weeks, int steps, int in, int shop)
            throws IllegalStateException, NoSuchElementException, IllegalArgumentException {
        needRace();
        needShop(shop);
        needState(weeks, steps, in);
        return settled().worthAt(weeks, codeOf(steps, in), shop);
    }

    public int doing(int weeks, int steps, int in, int shop)
            throws IllegalStateException, NoSuchElementException, IllegalArgumentException {
        needRace();
        needShop(shop);
        needState(weeks, steps, in);
        return settled().doingAt(weeks, codeOf(steps, in), shop);
    }

    public long gain(int weeks, int steps, int in)
            throws IllegalStateException, IllegalArgumentException {
        needRace();
        needState(weeks, steps, in);
        return settled().gainAt(weeks, codeOf(steps, in));
    }

    public int unrest() throws IllegalStateException {
        needRace();
        return settled().statesWithoutRest();
    }

    // ---- told rules ----

    public int rule(int shop, int own, int next, int doing)
            throws NoSuchElementException, IllegalArgumentException {
        needShop(shop);
        boolean nextStands = next >= 1 && next <= STEPS || next == NOBODY_NEXT;
        if (own < 1 || own > STEPS || !nextStands || doing < 0 || doing > LEAVE) {
            throw new IllegalArgumentException("no such rule");
        }
        int old = now.ruleAt(shop, own, next);
        now.putRule(shop, own, next, doing);
        ruledStands = false;
        return old;
    }

    public int follow() throws IllegalStateException {
        needRace();
        Race race = now.race;
        if (race.shops != 2) {
            return -1;
        }
        Board rows = settled();
        int changed = 0;
        for (int a = 1; a <= race.steps[0]; a++) {
            for (int b = 1; b <= race.steps[1]; b++) {
                int code = a * STATE_UNIT[0] + b * STATE_UNIT[1];
                changed += now.putRule(0, a, b, rows.doingAt(race.weeks, code, 0));
                changed += now.putRule(1, b, a, rows.doingAt(race.weeks, code, 1));
            }
        }
        ruledStands = false;
        return changed;
    }

    public long judged(int shop) throws IllegalStateException, NoSuchElementException {
        needRace();
        needShop(shop);
        return obeyed().worthAt(now.race.weeks, now.race.beginning(), shop);
    }

    public int breaks() throws IllegalStateException {
        needRace();
        return obeyed().statesThatBreak();
    }

    // ---- one alone, and one that sees nobody ----

    public long alone(int shop, int weeks, int steps)
            throws IllegalStateException, NoSuchElementException, IllegalArgumentException {
        needRace();
        needShop(shop);
        needAlone(shop, weeks, steps);
        long worth = settled().worthAt(weeks, steps * STATE_UNIT[shop], shop);
        // The SHOPS that are not IN add nothing but their part of the SCALE.
        return worth >> (2 * weeks * (now.race.shops - 1));
    }

    public int best(int shop, int weeks, int steps)
            throws IllegalStateException, NoSuchElementException, IllegalArgumentException {
        needRace();
        needShop(shop);
        needAlone(shop, weeks, steps);
        return settled().doingAt(weeks, steps * STATE_UNIT[shop], shop);
    }

    public long answer(int shop, int doing)
            throws IllegalStateException, NoSuchElementException, IllegalArgumentException {
        needRace();
        needShop(shop);
        if (doing < 0 || doing > PACES) {
            throw new IllegalArgumentException("no such doing");
        }
        return unseen.bestAnswer(shop, doing);
    }

    // ---- what comes of it ----

    public long first(int shop) throws IllegalStateException, NoSuchElementException {
        needRace();
        if (shop != NONE) {
            needShop(shop);
        }
        course.walk(settled());
        return shop == NONE ? course.nobody : course.firsts[shop];
    }

    public long late() throws IllegalStateException {
        needRace();
        course.walk(settled());
        return course.lateness;
    }

    public long waste() throws IllegalStateException {
        needRace();
        course.walk(settled());
        return course.wasted;
    }

    public int harder() throws IllegalStateException {
        needRace();
        return settled().statesRunHarder();
    }

    public int behind() throws IllegalStateException {
        needRace();
        return settled().firstRunHarder();
    }

    public int leavers(int shop) throws IllegalStateException, NoSuchElementException {
        needRace();
        needShop(shop);
        return settled().statesLeftBy(shop);
    }

    // ---- partners, sellers, the king, who comes in ----

    public long joined(int shop, int other)
            throws IllegalStateException, NoSuchElementException, IllegalArgumentException {
        needRace();
        needTwo(shop, other);
        variant.copyFrom(now.race);
        int partner = variant.joinShops(shop, other);
        side.settle(false);
        return side.worthAt(variant.weeks, variant.beginning(), partner);
    }

    public long sold(int seller, int buyer)
            throws IllegalStateException, NoSuchElementException, IllegalArgumentException {
        needRace();
        needTwo(seller, buyer);
        Race race = now.race;
        if (!race.sells[seller] || race.steps[buyer] < 2) {
            return NONE;
        }
        Board rows = settled();
        int before = race.beginning();
        int after = before - STATE_UNIT[buyer];
        long worthAfter = rows.worthAt(race.weeks, after, seller) + rows.worthAt(race.weeks, after, buyer);
        return worthAfter - rows.worthAt(race.weeks, before, seller) - rows.worthAt(race.weeks, before, buyer);
    }

    public int offer(int prize) throws IllegalArgumentException {
        if (prize < 0 || prize > HIGHEST) {
            throw new IllegalArgumentException("no such prize");
        }
        return now.addPrize(prize);
    }

    public int king(int coin) throws IllegalStateException, IllegalArgumentException {
        needRace();
        if (coin < 0 || coin > MOST_COIN) {
            throw new IllegalArgumentException("no such coin");
        }
        int choice = NONE;
        long least = 0;
        for (int i = 0; i < now.offered && i < OFFERS; i++) {
            int prize = now.prizes[i];
            weighOffer(i, prize);
            long price = ledger.wasted[i] + ledger.lateness[i] * coin;
            if (choice == NONE || price < least || price == least && prize < choice) {
                choice = prize;
                least = price;
            }
        }
        return choice;
    }

    public int entry(int fee) throws IllegalStateException, IllegalArgumentException {
        needRace();
        if (fee < 0 || fee > HIGHEST) {
            throw new IllegalArgumentException("no such fee");
        }
        Board rows = settled();
        int most = 0;
        for (int entrants = 1; entrants <= now.race.shops; entrants++) {
            if (allEarn(rows, entrants, fee)) {
                most = entrants;
            }
        }
        return most;
    }

    public int edge() throws IllegalStateException {
        needRace();
        if (edgeStamp != now.race.stamp) {
            edgeAnswer = findEdge(settled().rowAt(now.race.weeks, now.race.beginning()));
            edgeStamp = now.race.stamp;
        }
        return edgeAnswer;
    }

    public int run(int seed, int what) throws IllegalStateException, IllegalArgumentException {
        needRace();
        if (what < 0 || what > 3) {
            throw new IllegalArgumentException("no such what");
        }
        course.drive(settled(), seed);
        switch (what) {
            case 0: return course.weeksGone;
            case 1: return course.winners;
            case 2: return course.paid;
            default: return course.stillIn;
        }
    }

    // ---- images ----

    public int image() {
        if (imaged < 0 || imaged >= IMAGES) {
            return -1;
        }
        Desk free = images[imaged];
        if (free == null) {
            return -1;
        }
        free.copyFrom(now);
        imaged++;
        return imaged;
    }

    public int restore() {
        if (imaged <= 0 || imaged > IMAGES) {
            return -1;
        }
        Desk latest = images[imaged - 1];
        if (latest == null) {
            return -1;
        }
        imaged--;
        now.copyFrom(latest);
        ruledStands = false;
        return imaged;
    }

    public int count(int what) {
        switch (what) {
            case 0: return now.rulesNotRest();
            case 1: return now.offered;
            case 2: return imaged;
            case 3: return reader.fed;
            default: return NONE;
        }
    }

    // ---- what the calls ask for first ----

    private void needRace() {
        if (now.race.shops == 0) {
            throw new IllegalStateException("there is no race");
        }
    }

    private void needShop(int shop) {
        if (shop < 0 || shop >= now.race.shops || shop >= SHOPS) {
            throw new NoSuchElementException("no such shop");
        }
    }

    private void needTwo(int one, int another) {
        needShop(one);
        needShop(another);
        if (one == another) {
            throw new IllegalArgumentException("they are one");
        }
    }

    private void needState(int weeks, int steps, int in) {
        Race race = now.race;
        boolean stands = weeks >= 0 && weeks <= race.weeks
                && steps >= 0 && in >= 0 && in < 1 << race.shops;
        int rest = steps;
        for (int i = 0; i < SHOPS && stands; i++) {
            // SHOPS that are not have 0 STEPS here, so a digit for one of them is refused.
            stands = rest % 10 <= race.steps[i];
            rest = rest / 10;
        }
        if (!stands || rest != 0) {
            throw new IllegalArgumentException("no such state");
        }
    }

    private void needAlone(int shop, int weeks, int steps) {
        Race race = now.race;
        if (weeks < 0 || weeks > race.weeks || steps < 0 || steps > race.steps[shop]) {
            throw new IllegalArgumentException("no such weeks or steps");
        }
    }

    // ---- how the calls are worked ----

    /** The code of a STATE told by decimal digits and bits; 0 if it is OVER. */
    private int codeOf(int steps, int in) {
        int code = 0;
        int rest = steps;
        for (int i = 0; i < SHOPS; i++) {
            int own = rest % 10;
            rest = rest / 10;
            if ((in >> i & 1) == 1) {
                if (own == 0) {
                    return 0;
                }
                code += own * STATE_UNIT[i];
            }
        }
        return code;
    }

    private Board settled() {
        if (board.stamp != now.race.stamp) {
            board.settle(true);
            board.stamp = now.race.stamp;
        }
        return board;
    }

    private Board obeyed() {
        if (!ruledStands) {
            ruled.obey(now);
            ruledStands = true;
        }
        return ruled;
    }

    private void weighOffer(int slot, int prize) {
        int stamp = now.race.stamp;
        if (ledger.holds(slot, stamp, prize)) {
            return;
        }
        variant.copyFrom(now.race);
        variant.prize = prize;
        side.settle(false);
        course.walk(side);
        ledger.keep(slot, stamp, prize, course);
    }

    private boolean allEarn(Board rows, int entrants, int fee) {
        Race race = now.race;
        int code = race.beginningOf(entrants);
        long due = race.scale(race.weeks) * fee;
        for (int i = 0; i < entrants; i++) {
            if (rows.worthAt(race.weeks, code, i) < due) {
                return false;
            }
        }
        return true;
    }

    /** The EDGE at which the row at the beginning is another one. */
    private int findEdge(int row) {
        Race race = now.race;
        int begin = race.beginning();
        variant.copyFrom(race);
        for (int more = 1; more <= EDGES; more++) {
            variant.prize = race.prize + more;
            side.settle(false);
            if (side.rowAt(race.weeks, begin) != row) {
                return variant.prize;
            }
        }
        return NONE;
    }

    // ---- codes ----

    private static int stepsIn(int code, int shop) {
        return shop == 0 ? code % 5 : shop == 1 ? code / 5 % 5 : code / 25 % 5;
    }

    private static int doingIn(int row, int shop) {
        return shop == 0 ? row / 25 % 5 : shop == 1 ? row / 5 % 5 : row % 5;
    }

    /** "next" for a SHOP in a STATE. */
    private static int nextIn(int code, int shop) {
        int next = NOBODY_NEXT;
        for (int i = 0; i < SHOPS; i++) {
            int steps = stepsIn(code, i);
            if (i != shop && steps > 0 && steps < next) {
                next = steps;
            }
        }
        return next;
    }

    /** Where own STEPS and a "next" stand in a table; the place 0 is nobody's. */
    private static int stepsPlace(int own, int next) {
        boolean stands = own >= 1 && own <= STEPS && next >= 1;
        return stands ? own * NEXTS + (next < NEXTS ? next : 0) : 0;
    }

    /** What a text tells: plain numbers alone, so that an image of it is a copy. */
    private static final class Race {
        /** The same in two of them just if they were read from the same text at the same time. */
        int stamp;
        int shops;
        int weeks;
        int prize;
        int second;
        int learn;
        int behind;
        int clauses;
        final int[] steps = new int[SHOPS];
        final int[] paces = new int[SHOPS];
        final int[] costs = new int[SHOPS * DOINGS];
        final int[] chances = new int[SHOPS * DOINGS];
        final boolean[] sells = new boolean[SHOPS];
        /** Whether leave holds, by weeks left, own and next: no text is needed after it was read. */
        final boolean[] leaves = new boolean[(WEEKS + 1) * CASES];

        void clear() {
            shops = 0;
            weeks = 4;
            prize = 0;
            second = 0;
            learn = 0;
            behind = 0;
            clauses = 0;
            for (int i = 0; i < SHOPS; i++) {
                clearShop(i);
            }
        }

        void clearShop(int shop) {
            steps[shop] = 0;
            paces[shop] = 0;
            sells[shop] = false;
            for (int d = 0; d < DOINGS; d++) {
                costs[shop * DOINGS + d] = 0;
                chances[shop * DOINGS + d] = 0;
            }
        }

        void copyFrom(Race from) {
            stamp = from.stamp;
            shops = from.shops;
            weeks = from.weeks;
            prize = from.prize;
            second = from.second;
            learn = from.learn;
            behind = from.behind;
            clauses = from.clauses;
            System.arraycopy(from.steps, 0, steps, 0, SHOPS);
            System.arraycopy(from.paces, 0, paces, 0, SHOPS);
            System.arraycopy(from.costs, 0, costs, 0, SHOPS * DOINGS);
            System.arraycopy(from.chances, 0, chances, 0, SHOPS * DOINGS);
            System.arraycopy(from.sells, 0, sells, 0, SHOPS);
            System.arraycopy(from.leaves, 0, leaves, 0, leaves.length);
        }

        int costOf(int shop, int doing) {
            boolean stands = shop >= 0 && shop < SHOPS && doing >= 0 && doing < DOINGS;
            return stands ? costs[shop * DOINGS + doing] : 0;
        }

        int chanceOf(int shop, int doing) {
            boolean stands = shop >= 0 && shop < SHOPS && doing >= 0 && doing < DOINGS;
            return stands ? chances[shop * DOINGS + doing] : 0;
        }

        long scale(int left) {
            return 1L << (2 * left * shops);
        }

        int beginning() {
            return beginningOf(shops);
        }

        /** The STATE at the beginning, if just the first ones are IN. */
        int beginningOf(int entrants) {
            int code = 0;
            for (int i = 0; i < entrants && i < SHOPS; i++) {
                code += steps[i] * STATE_UNIT[i];
            }
            return code;
        }

        /** Whether a STATE can come up: no SHOP has more STEPS than at the beginning. */
        boolean fits(int code) {
            for (int i = 0; i < SHOPS; i++) {
                if (stepsIn(code, i) > steps[i]) {
                    return false;
                }
            }
            return true;
        }

        /** Whether it is a PLAIN STATE: one that fits with all IN. */
        boolean isPlain(int code) {
            for (int i = 0; i < shops; i++) {
                if (stepsIn(code, i) == 0) {
                    return false;
                }
            }
            return fits(code);
        }

        /** Whether a STATE can come up from the beginning: each makes a step a week at most. */
        boolean reaches(int left, int code) {
            for (int i = 0; i < SHOPS; i++) {
                int own = stepsIn(code, i);
                if (own > 0 && own < steps[i] - (weeks - left)) {
                    return false;
                }
            }
            return true;
        }

        boolean allows(int shop, int doing, int left, int place) {
            if (doing == LEAVE) {
                return left >= 0 && left <= WEEKS && leaves[left * CASES + place];
            }
            return doing <= paces[shop];
        }

        /** What comes to a SHOP if the bits have it; the code has those that are IN and have it not. */
        int partOf(int shop, int won, int code) {
            if ((won >> shop & 1) == 1) {
                return prize / Math.max(1, Integer.bitCount(won));
            }
            int own = stepsIn(code, shop);
            int same = 0;
            for (int i = 0; i < SHOPS; i++) {
                int its = stepsIn(code, i);
                if (its > 0 && its < own) {
                    return 0;
                }
                same += its == own ? 1 : 0;
            }
            return own == 0 ? 0 : second / Math.max(1, same);
        }

        /** Makes two SHOPS one, in the first's place: where that stands then. */
        int joinShops(int shop, int partner) {
            steps[shop] = Math.min(steps[shop], steps[partner]);
            paces[shop] = Math.max(paces[shop], paces[partner]);
            for (int d = 1; d <= PACES; d++) {
                int own = shop * DOINGS + d;
                int its = partner * DOINGS + d;
                costs[own] = costs[own] + costs[its];
                chances[own] = Math.max(chances[own], chances[its]);
            }
            for (int i = partner; i + 1 < SHOPS; i++) {
                moveShop(i + 1, i);
            }
            clearShop(SHOPS - 1);
            shops--;
            return shop < partner ? shop : shop - 1;
        }

        private void moveShop(int from, int to) {
            steps[to] = steps[from];
            paces[to] = paces[from];
            sells[to] = sells[from];
            System.arraycopy(costs, from * DOINGS, costs, to * DOINGS, DOINGS);
            System.arraycopy(chances, from * DOINGS, chances, to * DOINGS, DOINGS);
        }
    }

    /** All that an IMAGE keeps. */
    private static final class Desk {
        final Race race = new Race();
        final int[] rules = new int[SHOPS * CASES];
        final int[] prizes = new int[OFFERS];
        int offered;

        void copyFrom(Desk from) {
            race.copyFrom(from.race);
            System.arraycopy(from.rules, 0, rules, 0, rules.length);
            System.arraycopy(from.prizes, 0, prizes, 0, OFFERS);
            offered = from.offered;
        }

        void clearRules() {
            for (int i = 0; i < rules.length; i++) {
                rules[i] = 0;
            }
        }

        int rulesNotRest() {
            int some = 0;
            for (int i = 0; i < rules.length; i++) {
                if (rules[i] != 0) {
                    some++;
                }
            }
            return some;
        }

        int ruleAt(int shop, int own, int next) {
            return shop >= 0 && shop < SHOPS ? rules[shop * CASES + stepsPlace(own, next)] : 0;
        }

        /** Tells 1 if that changes the RULE, else 0. */
        int putRule(int shop, int own, int next, int doing) {
            if (shop < 0 || shop >= SHOPS || ruleAt(shop, own, next) == doing) {
                return 0;
            }
            rules[shop * CASES + stepsPlace(own, next)] = doing;
            return 1;
        }

        int addPrize(int prize) {
            if (offered < 0 || offered >= OFFERS) {
                return -1;
            }
            prizes[offered] = prize;
            offered++;
            return offered;
        }
    }

    /** A condition as codes, operands first: numbers as they are, all else below 0. */
    private static final class Terms {
        static final int OWN = -1;
        static final int NEXT = -2;
        static final int WEEK = -3;
        static final int PLUS = -4;
        static final int MINUS = -5;
        static final int TIMES = -6;
        static final int LESS = -7;
        static final int MORE = -8;
        static final int SAME = -9;
        static final int AND = -10;
        static final int OR = -11;
        static final int NOT = -12;

        private final int[] codes = new int[BYTES];
        private int size;
        /** Six open brackets with what waits in each need less than half of it. */
        private final int[] stack = new int[64];
        private int top;

        void clear() {
            size = 0;
        }

        boolean isTold() {
            return size > 0;
        }

        void put(int code) {
            if (size < codes.length) {
                codes[size] = code;
                size++;
            }
        }

        boolean holds(int own, int next, int week) {
            top = 0;
            for (int i = 0; i < size; i++) {
                int code = codes[i];
                if (code >= 0) {
                    push(code);
                } else if (code == OWN) {
                    push(own);
                } else if (code == NEXT) {
                    push(next);
                } else if (code == WEEK) {
                    push(week);
                } else if (code == NOT) {
                    push(1 - pop());
                } else {
                    int right = pop();
                    push(work(code, pop(), right));
                }
            }
            return pop() != 0;
        }

        private static int work(int code, int left, int right) {
            switch (code) {
                case PLUS: return left + right;
                case MINUS: return left - right;
                case TIMES: return left * right;
                case LESS: return left < right ? 1 : 0;
                case MORE: return left > right ? 1 : 0;
                case SAME: return left == right ? 1 : 0;
                case AND: return left & right;
                default: return left | right;
            }
        }

        private void push(int value) {
            if (top < stack.length) {
                stack[top] = value;
                top++;
            }
        }

        private int pop() {
            if (top <= 0) {
                return 0;
            }
            top--;
            return stack[top];
        }
    }

    /** The TAPE, and what reads it into a draft; after the first fault nothing is taken any more. */
    private static final class Reader {
        private static final int WRONG = 1;
        private static final int NO_SUCH_NUMBER = 2;
        private static final int TOO_MANY = 3;
        private static final int NO_SHOP = 4;
        private static final int MOST_OPEN = 6;

        final Race draft = new Race();
        int place = NONE;
        int fed;
        private final int[] tape = new int[BYTES];
        private final Terms sell = new Terms();
        private final Terms leave = new Terms();
        private Terms terms = sell;
        private int length;
        private int at;
        private int fault;

        /** Four bytes come on the TAPE, the highest first. */
        void takeIn(int number) {
            for (int shift = 24; shift >= 0 && fed >= 0 && fed < BYTES; shift -= 8) {
                tape[fed] = (number >>> shift) & 255;
                fed++;
            }
        }

        /** The FAULT of the first n bytes, 0 without one; the TAPE is empty then. */
        int read(int n) {
            length = n;
            fed = 0;
            at = 0;
            fault = 0;
            place = NONE;
            draft.clear();
            sell.clear();
            leave.clear();
            for (int i = 0; i < BYTES && hasMore(); i++) {
                readClause();
                demandSign(';');
                draft.clauses++;
            }
            if (draft.shops == 0) {
                refuse(NO_SHOP, length);
            }
            if (fault == 0) {
                workConditions();
            }
            return fault;
        }

        private boolean hasMore() {
            skipBlanks();
            return fault == 0 && at < length;
        }

        private void readClause() {
            int start = at;
            if (takeWord("shop")) {
                readShop(start);
            } else if (takeWord("prize")) {
                draft.prize = number(0, HIGHEST);
                draft.second = takeWord("second") ? number(0, HIGHEST) : 0;
            } else if (takeWord("weeks")) {
                draft.weeks = number(1, WEEKS);
            } else if (takeWord("learn")) {
                draft.learn = number(0, SURE);
                demandWord("behind");
                draft.behind = number(1, STEPS - 1);
            } else if (takeWord("sell")) {
                beginTerms(sell);
                readChoice(0);
            } else if (takeWord("leave")) {
                beginTerms(leave);
                readChoice(0);
            } else {
                refuse(WRONG, at);
            }
        }

        private void readShop(int start) {
            int shop = draft.shops;
            if (shop >= SHOPS) {
                refuse(TOO_MANY, start);
                return;
            }
            draft.shops = shop + 1;
            draft.steps[shop] = number(1, STEPS);
            skipBlanks();
            int paceStart = at;
            for (int pace = 1; pace <= PACES + 1 && takeWord("pace"); pace++) {
                if (pace > PACES) {
                    refuse(TOO_MANY, paceStart);
                    return;
                }
                draft.paces[shop] = pace;
                draft.costs[shop * DOINGS + pace] = number(0, 99);
                demandWord("at");
                draft.chances[shop * DOINGS + pace] = number(0, SURE);
                skipBlanks();
                paceStart = at;
            }
        }

        private void beginTerms(Terms into) {
            terms = into;
            terms.clear();
        }

        /** C; open: how many of ( [ not are open here. */
        private void readChoice(int open) {
            readBoth(open);
            for (int i = 0; i < BYTES && takeWord("or"); i++) {
                readBoth(open);
                terms.put(Terms.OR);
            }
        }

        /** A. */
        private void readBoth(int open) {
            readCheck(open);
            for (int i = 0; i < BYTES && takeWord("and"); i++) {
                readCheck(open);
                terms.put(Terms.AND);
            }
        }

        /** B. */
        private void readCheck(int open) {
            skipBlanks();
            int start = at;
            if (takeWord("not")) {
                if (mayOpen(open, start)) {
                    readCheck(open + 1);
                    terms.put(Terms.NOT);
                }
            } else if (takeSign('[')) {
                if (mayOpen(open, start)) {
                    readChoice(open + 1);
                    demandSign(']');
                }
            } else {
                readSum(open);
                int relation = takeRelation();
                readSum(open);
                terms.put(relation);
            }
        }

        private int takeRelation() {
            if (takeSign('<')) {
                return Terms.LESS;
            }
            if (takeSign('>')) {
                return Terms.MORE;
            }
            demandSign('=');
            return Terms.SAME;
        }

        /** E. */
        private void readSum(int open) {
            readProduct(open);
            for (int i = 0; i < BYTES; i++) {
                if (takeSign('+')) {
                    readProduct(open);
                    terms.put(Terms.PLUS);
                } else if (takeSign('-')) {
                    readProduct(open);
                    terms.put(Terms.MINUS);
                } else {
                    return;
                }
            }
        }

        /** T. */
        private void readProduct(int open) {
            readUnit(open);
            for (int i = 0; i < BYTES && takeSign('*'); i++) {
                readUnit(open);
                terms.put(Terms.TIMES);
            }
        }

        /** U. */
        private void readUnit(int open) {
            skipBlanks();
            int start = at;
            if (takeSign('(')) {
                if (mayOpen(open, start)) {
                    readSum(open + 1);
                    demandSign(')');
                }
            } else if (takeWord("own")) {
                terms.put(Terms.OWN);
            } else if (takeWord("next")) {
                terms.put(Terms.NEXT);
            } else if (takeWord("week")) {
                terms.put(Terms.WEEK);
            } else {
                terms.put(number(0, HIGHEST));
            }
        }

        private boolean mayOpen(int open, int start) {
            if (open >= MOST_OPEN) {
                refuse(TOO_MANY, start);
            }
            return open < MOST_OPEN;
        }

        private int number(int least, int most) {
            skipBlanks();
            int start = at;
            int value = 0;
            for (int i = 0; i < BYTES && isDigit(signAt(at)); i++) {
                // Kept just above all that is asked for, however many digits stand there.
                value = Math.min(HIGHEST + 1, value * 10 + signAt(at) - '0');
                at++;
            }
            if (at == start) {
                refuse(WRONG, start);
            } else if (value < least || value > most) {
                refuse(NO_SUCH_NUMBER, start);
            }
            return value;
        }

        private boolean takeWord(String word) {
            skipBlanks();
            int letters = 0;
            for (int i = 0; i < BYTES && isLetter(signAt(at + letters)); i++) {
                letters++;
            }
            if (fault != 0 || letters != word.length()) {
                return false;
            }
            for (int i = 0; i < letters; i++) {
                if (signAt(at + i) != word.charAt(i)) {
                    return false;
                }
            }
            at += letters;
            return true;
        }

        private boolean takeSign(char sign) {
            skipBlanks();
            if (fault != 0 || signAt(at) != sign) {
                return false;
            }
            at++;
            return true;
        }

        private void demandWord(String word) {
            if (!takeWord(word)) {
                refuse(WRONG, at);
            }
        }

        private void demandSign(char sign) {
            if (!takeSign(sign)) {
                refuse(WRONG, at);
            }
        }

        private void skipBlanks() {
            while (at >= 0 && at < length && at < BYTES && tape[at] == ' ') {
                at++;
            }
        }

        private void refuse(int kind, int where) {
            if (fault == 0) {
                fault = kind;
                place = where;
            }
        }

        private int signAt(int index) {
            return index >= 0 && index < length && index < BYTES ? tape[index] : NONE;
        }

        private static boolean isDigit(int sign) {
            return sign >= '0' && sign <= '9';
        }

        private static boolean isLetter(int sign) {
            return sign >= 'a' && sign <= 'z';
        }

        private void workConditions() {
            for (int week = 1; week <= WEEKS; week++) {
                for (int own = 1; own <= STEPS; own++) {
                    for (int k = 0; k < NEXTS; k++) {
                        int next = k == 0 ? NOBODY_NEXT : k;
                        draft.leaves[week * CASES + stepsPlace(own, next)] =
                                !leave.isTold() || leave.holds(own, next, week);
                    }
                }
            }
            int begin = draft.beginning();
            for (int i = 0; i < draft.shops && i < SHOPS; i++) {
                draft.sells[i] = sell.isTold()
                        && sell.holds(draft.steps[i], nextIn(begin, i), draft.weeks);
            }
        }
    }

    /**
     * One STATE laid open. By a MODE a SHOP stays as it is (0), makes a step (1) or leaves (2): the
     * modes of all SHOPS, coded as a row is, tell how the week ends.
     */
    private static final class Week {
        final boolean[] can = new boolean[SHOPS * DOINGS];
        final int[] doings = new int[SHOPS];
        final int[] won = new int[ROWS];
        final int[] ahead = new int[ROWS];
        /** What each end is worth to each SHOP, and after all was folded what each row is. */
        final long[] values = new long[ROWS * SHOPS];
        private final Race race;
        private final int[] chances = new int[SHOPS * DOINGS];
        /** Which digits of a SHOP stand for something in the values now: modes first, DOINGS then. */
        private final boolean[] live = new boolean[SHOPS * DOINGS];
        private int left;

        Week(Race race) {
            this.race = race;
        }

        void open(int weeksLeft, int code) {
            left = weeksLeft;
            for (int i = 0; i < SHOPS; i++) {
                openShop(i, code);
            }
            for (int x = 0; x < MODES; x++) {
                for (int y = 0; y < MODES; y++) {
                    for (int z = 0; z < MODES; z++) {
                        openEnd(x * ROW_UNIT[0] + y * ROW_UNIT[1] + z * ROW_UNIT[2], code);
                    }
                }
            }
        }

        private void openShop(int shop, int code) {
            int own = stepsIn(code, shop);
            int next = nextIn(code, shop);
            boolean in = own > 0;
            boolean learns = race.behind > 0 && own - next >= race.behind;
            int more = learns ? race.learn : 0;
            int place = stepsPlace(own, next);
            for (int d = 0; d < DOINGS; d++) {
                boolean open = d == 0 || in && race.allows(shop, d, left, place);
                boolean runs = open && d >= 1 && d <= PACES;
                can[shop * DOINGS + d] = open;
                chances[shop * DOINGS + d] = runs ? Math.min(SURE, race.chanceOf(shop, d) + more) : 0;
                live[shop * DOINGS + d] = d == 0 || in && d < MODES;
            }
        }

        private void openEnd(int modes, int code) {
            int winners = 0;
            int after = 0;
            for (int i = 0; i < SHOPS; i++) {
                int steps = stepsIn(code, i);
                int mode = doingIn(modes, i);
                if (steps == 1 && mode == 1) {
                    winners |= 1 << i;
                } else if (steps > 0 && mode != 2) {
                    after += (steps - mode) * STATE_UNIT[i];
                }
            }
            won[modes] = winners;
            ahead[modes] = after;
        }

        /** Of all that can be done keeps the DOINGS of one row. */
        void narrow(int row) {
            for (int i = 0; i < SHOPS; i++) {
                for (int d = 0; d < DOINGS; d++) {
                    can[i * DOINGS + d] = d == doingIn(row, i);
                }
            }
        }

        /** What each row that can be done is worth, by the WORTHS of the STATES of the week behind. */
        void price(Board board) {
            for (int x = 0; x < MODES; x++) {
                for (int y = 0; y < MODES; y++) {
                    for (int z = 0; z < MODES; z++) {
                        if (live[x] && live[DOINGS + y] && live[2 * DOINGS + z]) {
                            priceEnd(board, x * ROW_UNIT[0] + y * ROW_UNIT[1] + z * ROW_UNIT[2]);
                        }
                    }
                }
            }
            fold(2, 0, 1);
            fold(1, 0, 2);
            fold(0, 1, 2);
        }

        private void priceEnd(Board board, int modes) {
            for (int i = 0; i < SHOPS; i++) {
                values[modes * SHOPS + i] = won[modes] == 0
                        ? board.worthAt(left - 1, ahead[modes], i)
                        : race.scale(left - 1) * race.partOf(i, won[modes], ahead[modes]);
            }
        }

        /** Puts the DOINGS of a SHOP in the place of its modes; a and b are the others. */
        private void fold(int shop, int a, int b) {
            if (shop >= race.shops) {
                return;
            }
            for (int x = 0; x < DOINGS; x++) {
                for (int y = 0; y < DOINGS; y++) {
                    if (live[a * DOINGS + x] && live[b * DOINGS + y]) {
                        foldAt(shop, x * ROW_UNIT[a] + y * ROW_UNIT[b]);
                    }
                }
            }
            for (int d = 0; d < DOINGS; d++) {
                live[shop * DOINGS + d] = can[shop * DOINGS + d];
            }
        }

        private void foldAt(int shop, int row) {
            int unit = ROW_UNIT[shop];
            // The SHOPS below are folded later: each brings its 4 to the SCALE then.
            long charge = race.scale(left) >> (2 * shop);
            for (int i = 0; i < SHOPS; i++) {
                long stays = values[row * SHOPS + i];
                long steps = values[(row + unit) * SHOPS + i];
                long leaves = values[(row + 2 * unit) * SHOPS + i];
                for (int d = 0; d < DOINGS; d++) {
                    if (can[shop * DOINGS + d]) {
                        int chance = chances[shop * DOINGS + d];
                        long value = d == LEAVE ? SURE * leaves : (SURE - chance) * stays + chance * steps;
                        long cost = i == shop ? race.costOf(shop, d) * charge : 0;
                        values[(row + d * unit) * SHOPS + i] = value - cost;
                    }
                }
            }
        }

        void takeRow(int row) {
            for (int i = 0; i < SHOPS; i++) {
                doings[i] = doingIn(row, i);
            }
        }

        /** Of 4 to the power of SHOPS, how often just those of the bits make a step by the row taken. */
        int weightOf(int made) {
            int weight = 1;
            for (int i = 0; i < race.shops && i < SHOPS; i++) {
                int chance = chanceOf(i);
                weight *= (made >> i & 1) == 1 ? chance : SURE - chance;
            }
            return weight;
        }

        int modesOf(int made) {
            int modes = 0;
            for (int i = 0; i < SHOPS; i++) {
                if ((made >> i & 1) == 1) {
                    modes += ROW_UNIT[i];
                } else if (doings[i] == LEAVE) {
                    modes += 2 * ROW_UNIT[i];
                }
            }
            return modes;
        }

        int chanceOf(int shop) {
            return chances[shop * DOINGS + doings[shop]];
        }

        boolean canRow(int row) {
            for (int i = 0; i < SHOPS; i++) {
                if (!can[i * DOINGS + doingIn(row, i)]) {
                    return false;
                }
            }
            return true;
        }

        int costOfAll() {
            int cost = 0;
            for (int i = 0; i < SHOPS; i++) {
                cost += race.costOf(i, doings[i]);
            }
            return cost;
        }
    }

    /** For all STATES of a RACE a row each, and what comes of it. */
    private static final class Board {
        final Race race;
        final Week week;
        int stamp;
        private final int[] rows = new int[(WEEKS + 1) * STATES];
        private final long[] gains = new long[(WEEKS + 1) * STATES];
        private final long[] worths = new long[(WEEKS + 1) * STATES * SHOPS];
        private final long[] rowGains = new long[ROWS];
        private final long[] rowSums = new long[ROWS];

        Board(Race race) {
            this.race = race;
            this.week = new Week(race);
        }

        /** Where a STATE stands in the rows; 0, which is always OVER, if there is none such. */
        private static int placeOf(int left, int code) {
            return left >= 0 && left <= WEEKS && code >= 0 && code < STATES ? left * STATES + code : 0;
        }

        int rowAt(int left, int code) {
            return rows[placeOf(left, code)];
        }

        int doingAt(int left, int code, int shop) {
            return doingIn(rowAt(left, code), shop);
        }

        long gainAt(int left, int code) {
            return gains[placeOf(left, code)];
        }

        long worthAt(int left, int code, int shop) {
            return shop >= 0 && shop < SHOPS ? worths[placeOf(left, code) * SHOPS + shop] : 0;
        }

        /** THE ROWS, from the last week back: of all STATES, or just of those that can come up. */
        void settle(boolean all) {
            for (int left = 1; left <= race.weeks; left++) {
                for (int code = 1; code < STATES; code++) {
                    if (race.fits(code) && (all || race.reaches(left, code))) {
                        week.open(left, code);
                        week.price(this);
                        sumRows();
                        keepLeastGain(placeOf(left, code));
                    }
                }
            }
        }

        private void sumRows() {
            for (int row = 0; row < ROWS; row++) {
                rowGains[row] = 0;
                rowSums[row] = 0;
            }
            sumFor(0, 1, 2);
            sumFor(1, 0, 2);
            sumFor(2, 0, 1);
        }

        /** Adds to each row what the SHOP has, and what it would have more; a and b are the others. */
        private void sumFor(int shop, int a, int b) {
            for (int x = 0; x < DOINGS; x++) {
                for (int y = 0; y < DOINGS; y++) {
                    if (week.can[a * DOINGS + x] && week.can[b * DOINGS + y]) {
                        sumAt(shop, x * ROW_UNIT[a] + y * ROW_UNIT[b]);
                    }
                }
            }
        }

        private void sumAt(int shop, int resting) {
            long most = week.values[resting * SHOPS + shop];
            for (int d = 1; d < DOINGS; d++) {
                if (week.can[shop * DOINGS + d]) {
                    most = Math.max(most, week.values[(resting + d * ROW_UNIT[shop]) * SHOPS + shop]);
                }
            }
            for (int d = 0; d < DOINGS; d++) {
                if (week.can[shop * DOINGS + d]) {
                    int row = resting + d * ROW_UNIT[shop];
                    long own = week.values[row * SHOPS + shop];
                    rowGains[row] += most - own;
                    rowSums[row] += own;
                }
            }
        }

        private void keepLeastGain(int place) {
            // All at rest is the first row, and can always be done.
            int chosen = 0;
            for (int row = 1; row < ROWS; row++) {
                boolean better = rowGains[row] < rowGains[chosen]
                        || rowGains[row] == rowGains[chosen] && rowSums[row] > rowSums[chosen];
                if (better && week.canRow(row)) {
                    chosen = row;
                }
            }
            rows[place] = chosen;
            gains[place] = rowGains[chosen];
            keepWorths(place, chosen);
        }

        private void keepWorths(int place, int row) {
            System.arraycopy(week.values, row * SHOPS, worths, place * SHOPS, SHOPS);
        }

        /** The rows that the RULES tell, in place of THE ROWS. */
        void obey(Desk desk) {
            for (int left = 1; left <= race.weeks; left++) {
                for (int code = 1; code < STATES; code++) {
                    if (race.fits(code)) {
                        int place = placeOf(left, code);
                        week.open(left, code);
                        rows[place] = toldRow(desk, code);
                        week.narrow(rows[place]);
                        week.price(this);
                        keepWorths(place, rows[place]);
                    }
                }
            }
        }

        private int toldRow(Desk desk, int code) {
            int row = 0;
            for (int i = 0; i < SHOPS; i++) {
                int own = stepsIn(code, i);
                int doing = own == 0 ? 0 : desk.ruleAt(i, own, nextIn(code, i));
                if (week.can[i * DOINGS + doing]) {
                    row += doing * ROW_UNIT[i];
                }
            }
            return row;
        }

        int statesThatBreak() {
            int broken = 0;
            for (int left = 1; left <= race.weeks; left++) {
                for (int code = 1; code < STATES; code++) {
                    if (race.isPlain(code) && isBroken(left, code)) {
                        broken++;
                    }
                }
            }
            return broken;
        }

        private boolean isBroken(int left, int code) {
            week.open(left, code);
            week.price(this);
            int row = rowAt(left, code);
            for (int i = 0; i < SHOPS; i++) {
                int resting = row - doingIn(row, i) * ROW_UNIT[i];
                for (int d = 0; d < DOINGS; d++) {
                    long other = week.values[(resting + d * ROW_UNIT[i]) * SHOPS + i];
                    if (week.can[i * DOINGS + d] && other > worthAt(left, code, i)) {
                        return true;
                    }
                }
            }
            return false;
        }

        int statesWithoutRest() {
            int some = 0;
            for (int left = 1; left <= race.weeks; left++) {
                for (int code = 1; code < STATES; code++) {
                    if (race.fits(code) && gainAt(left, code) != 0) {
                        some += statesOf(code);
                    }
                }
            }
            return some;
        }

        /** How many STATES share a code: those that are not IN may have any STEPS. */
        private int statesOf(int code) {
            int states = 1;
            for (int i = 0; i < race.shops && i < SHOPS; i++) {
                if (stepsIn(code, i) == 0) {
                    states *= race.steps[i];
                }
            }
            return states;
        }

        int statesRunHarder() {
            int some = 0;
            for (int left = 1; left <= race.weeks; left++) {
                for (int code = 1; code < STATES; code++) {
                    if (race.isPlain(code) && isRunHarder(left, code)) {
                        some++;
                    }
                }
            }
            return some;
        }

        int firstRunHarder() {
            for (int left = race.weeks; left >= 1; left--) {
                for (int code = 1; code < STATES; code++) {
                    if (race.isPlain(code) && isRunHarder(left, code)) {
                        return 1000 * left + stepsIn(code, 0) + 10 * stepsIn(code, 1) + 100 * stepsIn(code, 2);
                    }
                }
            }
            return NONE;
        }

        private boolean isRunHarder(int left, int code) {
            for (int i = 0; i < race.shops && i < SHOPS; i++) {
                for (int j = 0; j < race.shops && j < SHOPS; j++) {
                    if (stepsIn(code, i) > stepsIn(code, j)
                            && race.costOf(i, doingAt(left, code, i)) > race.costOf(j, doingAt(left, code, j))) {
                        return true;
                    }
                }
            }
            return false;
        }

        int statesLeftBy(int shop) {
            int some = 0;
            for (int left = 1; left <= race.weeks; left++) {
                for (int code = 1; code < STATES; code++) {
                    if (race.isPlain(code) && doingAt(left, code, shop) == LEAVE) {
                        some++;
                    }
                }
            }
            return some;
        }
    }

    /** What goes by from the beginning on: by chance, or by the draws of a SEED. */
    private static final class Course {
        final long[] firsts = new long[SHOPS];
        long nobody;
        long lateness;
        long wasted;
        int weeksGone;
        int winners;
        int paid;
        int stillIn;
        /** By weeks left and STATE, how much of the chance comes there. */
        private final long[] masses = new long[(WEEKS + 1) * STATES];

        /** By chance, all in SCALE. */
        void walk(Board board) {
            Race race = board.race;
            clearWalk();
            nobody = race.scale(race.weeks);
            masses[race.weeks * STATES + race.beginning()] = 1;
            for (int left = race.weeks; left >= 1; left--) {
                // Where nobody is IN, at 0, the race is OVER.
                for (int code = 1; code < STATES; code++) {
                    if (masses[left * STATES + code] > 0) {
                        walkFrom(board, left, code);
                    }
                }
            }
        }

        private void clearWalk() {
            for (int i = 0; i < SHOPS; i++) {
                firsts[i] = 0;
            }
            for (int place = 0; place < masses.length; place++) {
                masses[place] = 0;
            }
            lateness = 0;
            wasted = 0;
        }

        private void walkFrom(Board board, int left, int code) {
            Race race = board.race;
            Week week = board.week;
            long mass = masses[left * STATES + code];
            week.open(left, code);
            week.takeRow(board.rowAt(left, code));
            lateness += mass * race.scale(left);
            wasted += mass * race.scale(left) * week.costOfAll();
            int outcomes = 1 << race.shops;
            for (int made = 0; made < outcomes; made++) {
                long part = mass * week.weightOf(made);
                if (part > 0) {
                    int modes = week.modesOf(made);
                    if (week.won[modes] == 0) {
                        masses[(left - 1) * STATES + week.ahead[modes]] += part;
                    } else {
                        noteWinners(week.won[modes], part * race.scale(left - 1));
                    }
                }
            }
        }

        private void noteWinners(int won, long chance) {
            nobody -= chance;
            for (int i = 0; i < SHOPS; i++) {
                if ((won >> i & 1) == 1) {
                    firsts[i] += chance;
                }
            }
        }

        /** By the draws of a SEED. */
        void drive(Board board, int seed) {
            Race race = board.race;
            Week week = board.week;
            int draw = seed;
            int code = race.beginning();
            weeksGone = 0;
            winners = 0;
            paid = 0;
            for (int left = race.weeks; left >= 1 && code > 0 && winners == 0; left--) {
                week.open(left, code);
                week.takeRow(board.rowAt(left, code));
                int made = 0;
                for (int i = 0; i < SHOPS; i++) {
                    if (week.doings[i] >= 1 && week.doings[i] <= PACES) {
                        draw = draw * 1103515245 + 12345;
                        made |= (draw >>> 16 & 3) < week.chanceOf(i) ? 1 << i : 0;
                    }
                }
                int modes = week.modesOf(made);
                paid += week.costOfAll();
                winners = week.won[modes];
                code = week.ahead[modes];
                weeksGone++;
            }
            stillIn = winners | bitsIn(code);
        }

        private static int bitsIn(int code) {
            int bits = 0;
            for (int i = 0; i < SHOPS; i++) {
                if (stepsIn(code, i) > 0) {
                    bits |= 1 << i;
                }
            }
            return bits;
        }
    }

    /**
     * ANSWER. What the others have does not hang on what the SHOP does, so by week there is one
     * crowd of their STATES, weighed by chance, and against it each of the SHOP's own STEPS is
     * judged from the last week back.
     */
    private static final class Unseen {
        private final Race race;
        /** By weeks left and the others' STEPS; a 0 of one of them is the end. */
        private final long[] crowd = new long[(WEEKS + 1) * STATES];
        private final int[] chances = new int[SHOPS];
        private final long[] bests = new long[STEPS + 1];
        private final long[] ends = new long[STEPS + 1];
        private int shop;

        Unseen(Race race) {
            this.race = race;
        }

        long bestAnswer(int who, int doing) {
            shop = who;
            for (int i = 0; i < SHOPS; i++) {
                boolean runs = i != shop && i < race.shops && doing <= race.paces[i];
                chances[i] = runs ? race.chanceOf(i, doing) : 0;
            }
            spreadCrowd();
            for (int own = 0; own <= STEPS; own++) {
                bests[own] = 0;
            }
            for (int left = 1; left <= race.weeks; left++) {
                for (int own = 0; own <= race.steps[shop]; own++) {
                    ends[own] = bests[own] + paidAfter(left - 1, own);
                }
                findBests(left);
            }
            return bests[race.steps[shop]];
        }

        private void spreadCrowd() {
            for (int place = 0; place < crowd.length; place++) {
                crowd[place] = 0;
            }
            int start = race.beginning() - race.steps[shop] * STATE_UNIT[shop];
            crowd[race.weeks * STATES + start] = 1;
            for (int left = race.weeks; left >= 1; left--) {
                for (int code = 0; code < STATES; code++) {
                    if (crowd[left * STATES + code] > 0 && winnersIn(code) == 0) {
                        spreadFrom(left, code);
                    }
                }
            }
        }

        private void spreadFrom(int left, int code) {
            int outcomes = 1 << race.shops;
            for (int made = 0; made < outcomes; made++) {
                long part = crowd[left * STATES + code];
                int after = code;
                for (int i = 0; i < race.shops && i < SHOPS; i++) {
                    boolean steps = (made >> i & 1) == 1;
                    if (i != shop) {
                        part *= steps ? chances[i] : SURE - chances[i];
                        after -= steps ? STATE_UNIT[i] : 0;
                    } else if (steps) {
                        part = 0;
                    }
                }
                if (part > 0) {
                    crowd[(left - 1) * STATES + after] += part;
                }
            }
        }

        /** The others that have it. */
        private int winnersIn(int code) {
            int bits = 0;
            for (int i = 0; i < race.shops && i < SHOPS; i++) {
                if (i != shop && stepsIn(code, i) == 0) {
                    bits |= 1 << i;
                }
            }
            return bits;
        }

        /** What comes to the SHOP if it has so many STEPS as the week ends. */
        private long paidAfter(int left, int own) {
            long paid = 0;
            int ownBit = own == 0 ? 1 << shop : 0;
            for (int code = 0; code < STATES; code++) {
                int won = winnersIn(code) | ownBit;
                long mass = crowd[left * STATES + code];
                if (mass > 0 && won != 0) {
                    paid += mass * race.partOf(shop, won, code + own * STATE_UNIT[shop]);
                }
            }
            return paid * race.scale(left);
        }

        private void findBests(int left) {
            long going = 0;
            for (int code = 0; code < STATES; code++) {
                if (winnersIn(code) == 0) {
                    going += crowd[left * STATES + code];
                }
            }
            for (int own = 1; own <= race.steps[shop]; own++) {
                long best = SURE * ends[own];
                for (int d = 1; d <= race.paces[shop]; d++) {
                    int chance = race.chanceOf(shop, d);
                    long worth = (SURE - chance) * ends[own] + chance * ends[own - 1]
                            - going * race.scale(left) * race.costOf(shop, d);
                    best = Math.max(best, worth);
                }
                bests[own] = best;
            }
        }
    }

    /** What WASTE and LATE are by the PRIZES told, so that a COIN more costs no work. */
    private static final class Ledger {
        final long[] wasted = new long[OFFERS];
        final long[] lateness = new long[OFFERS];
        private final int[] stamps = new int[OFFERS];
        private final int[] prizes = new int[OFFERS];

        boolean holds(int slot, int stamp, int prize) {
            return stamps[slot] == stamp && prizes[slot] == prize;
        }

        void keep(int slot, int stamp, int prize, Course course) {
            wasted[slot] = course.wasted;
            lateness[slot] = course.lateness;
            stamps[slot] = stamp;
            prizes[slot] = prize;
        }
    }
}
