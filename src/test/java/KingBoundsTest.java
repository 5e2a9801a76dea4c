import java.util.Arrays;

/** The bounds of KING, ENTRY, EDGE, RUN and IMAGES (==== 4, promises 26 to 33), sentence by sentence. */
public final class KingBoundsTest extends Checks {
    private static final String ONE = "shop 1 pace 3 at 2;prize 10;weeks 2;";

    /**
     * With two weeks left the first LEAVES, so that the third need not pay 2 to come ahead of it; by a
     * PRIZE of 60 the third would run for a half of it, so the second can't wait: a week, and WASTE of 2.
     */
    private static final String AWAY = "shop 2;shop 1 pace 0 at 4;shop 2 pace 1 at 2 pace 2 at 4;prize 30 second 21;weeks 2;";
    private static final String CHICKEN = "shop 1 pace 6 at 4;shop 1 pace 7 at 4;prize 10;weeks 1;";

    public static void main(String[] args) {
        offers();
        nineOffers();
        coins();
        leastPrice();
        kingAsksTheRace();
        fees();
        entryTheGreatest();
        entryOfAll();
        edgeWithinTen();
        edgeOfTheRow();
        edgeAboveAll();
        edgeStays();
        whats();
        draws();
        drawsByOrder();
        runsToTheEnd();
        threeImages();
        latestImage();
        imageWithoutRace();
        imageIsACopy();
        counts();
        end("the king, the edges, the runs and the images are as told");
    }

    // ---- KING ----

    private static void offers() {
        about("offer: it is not 0 to 9,999");
        PatentRaces x = new PatentRaces();
        for (int prize : new int[] {LEAST, -10_000, -1, 10_000, 10_001, MOST}) {
            thrown(ARGUMENT, "offer(" + prize + ")", () -> x.offer(prize));
            due(0, "count(1)", () -> x.count(1));
        }
        due(1, "offer(0)", () -> x.offer(0));
        due(2, "offer(9999)", () -> x.offer(9999));
        due(3, "offer(9999) again", () -> x.offer(9999));
        due(3, "count(1)", () -> x.count(1));
        due(3, "without a RACE too", () -> x.count(1));
    }

    private static void nineOffers() {
        about("how many; -1: there are 9");
        PatentRaces x = of(ONE);
        for (int i = 1; i <= 9; i++) {
            int prize = 100 * i;
            due(i, "offer " + i, () -> x.offer(prize));
        }
        due(-1, "offer 10", () -> x.offer(0));
        due(-1, "offer 11", () -> x.offer(0));
        due(9, "count(1)", () -> x.count(1));
        thrown(ARGUMENT, "offer(10000)", () -> x.offer(10_000));
        due(100, "king(0): the tenth PRIZE, of 0, is none of them", () -> x.king(0));
        PatentRaces last = of(ONE);
        for (int i = 1; i <= 9; i++) {
            last.offer(i == 9 ? 0 : 100);
        }
        due(0, "king(0): the ninth PRIZE is one of them", () -> last.king(0));
    }

    private static void coins() {
        about("a COIN (0 to 999)");
        PatentRaces x = of(ONE);
        for (int coin : new int[] {LEAST, -1, 0, 1, 998, 999, 1000, MOST}) {
            dueOrThrown(coin >= 0 && coin <= 999, -1, ARGUMENT, "NONE: none was told: king(" + coin + ")", () -> x.king(coin));
        }
        x.offer(5);
        for (int coin : new int[] {LEAST, -1, 0, 1, 998, 999, 1000, MOST}) {
            dueOrThrown(coin >= 0 && coin <= 999, 5, ARGUMENT, "one alone: king(" + coin + ")", () -> x.king(coin));
        }
        PatentRaces none = new PatentRaces();
        none.offer(5);
        thrown(STATE, "king(0) without a RACE", () -> none.king(0));
        thrown(STATE, "king(-1) without a RACE", () -> none.king(-1));
    }

    private static void leastPrice() {
        about("WASTE and LATE times a told COIN are least together; of these the least PRIZE");
        // By 5 nobody runs: 2 weeks. By 10 it runs: WASTE 4.5, 1.5 weeks. They are as good by a COIN of 9.
        for (int[] order : new int[][] {{5, 10}, {10, 5}, {10, 5, 10}, {4, 5, 10, 11}, {11, 10, 5, 4}}) {
            PatentRaces x = of(ONE);
            for (int prize : order) {
                x.offer(prize);
            }
            int low = Arrays.stream(order).min().getAsInt();
            int run = Arrays.stream(order).filter(p -> p > 6).min().getAsInt();
            due(low, "no COIN", () -> x.king(0));
            due(low, "a COIN of 8", () -> x.king(8));
            due(low, "a COIN of 9", () -> x.king(9));
            due(run, "a COIN of 10", () -> x.king(10));
            due(run, "a COIN of 999", () -> x.king(999));
            due(low, "a COIN of 9 once more", () -> x.king(9));
        }
        // The greatest numbers: 3 * 99 each week and six weeks by a COIN of 999, over 4 to the power of 18.
        PatentRaces great = of("shop 4 pace 99 at 1;shop 4 pace 99 at 1;shop 4 pace 99 at 1;weeks 6;");
        great.offer(9999);
        great.offer(9998);
        great.offer(0);
        due(0, "no WASTE", () -> great.king(0));
        PatentRaces sure = of("shop 1 pace 99 at 4;weeks 6;");
        sure.offer(100);
        sure.offer(99);
        due(99, "by 99 it does not run: 6 weeks", () -> sure.king(0));
        due(99, "by 100 it runs in the last week: no less LATE", () -> sure.king(999));
    }

    private static void kingAsksTheRace() {
        about("KING: of the RACE with a told PRIZE in the place of its own");
        PatentRaces x = of(ONE);
        x.offer(10);
        x.offer(5);
        due(10, "king(10)", () -> x.king(10));
        due(10, "the RACE's own prize stays", () -> x.told(2));
        due(48, "its WORTH stays", () -> x.worth(2, 1, 1, 0));
        due(72, "its WASTE stays", x::waste);
        tell(x, "shop 1 pace 3 at 4;weeks 2;");
        // In both weeks 3 is less than 5 and than 10: it waits for the last week.
        due(5, "of the RACE that is told now", () -> x.king(10));
        tell(x, "shop 1 pace 7 at 4;shop 1 pace 7 at 4;weeks 1;");
        due(5, "by 5 nobody runs: a week of 10", () -> x.king(10));
        due(5, "by 10 one runs, and the week is no shorter", () -> x.king(999));
        PatentRaces away = of(AWAY);
        away.offer(60);
        away.offer(30);
        due(30, "2 * 2 is no more than 2 + 2", () -> away.king(2));
        due(60, "2 * 3 is more than 2 + 3", () -> away.king(3));
        // The same RACE, but other PRIZES in the places of the old.
        PatentRaces y = of(ONE);
        y.image();
        y.offer(10);
        y.offer(0);
        due(10, "4.5 + 1.5 * 10 is less than 2 * 10", () -> y.king(10));
        y.restore();
        y.offer(0);
        due(0, "king(10)", () -> y.king(10));
        y.offer(10);
        due(10, "king(10)", () -> y.king(10));
    }

    // ---- ENTRY ----

    private static void fees() {
        about("a FEE (0 to 9,999)");
        PatentRaces x = of("shop 1 pace 0 at 4;prize 9999;weeks 1;");
        for (int fee : new int[] {LEAST, -1, 10_000, 10_001, MOST}) {
            thrown(ARGUMENT, "entry(" + fee + ")", () -> x.entry(fee));
        }
        due(1, "entry(0)", () -> x.entry(0));
        due(1, "entry(1)", () -> x.entry(1));
        due(1, "entry(9998)", () -> x.entry(9998));
        due(1, "entry(9999): WORTH of the FEE or more", () -> x.entry(9999));
        due(0, "entry(9999)", () -> of("shop 1 pace 1 at 4;prize 9999;weeks 1;").entry(9999));
        PatentRaces none = new PatentRaces();
        thrown(STATE, "entry(0) without a RACE", () -> none.entry(0));
        thrown(STATE, "entry(-1) without a RACE", () -> none.entry(-1));
    }

    private static void entryTheGreatest() {
        about("how many SHOPS (the first ones, by number; 0 to all) can be IN from the beginning: the greatest number so");
        // One has 12, two have 6 each, three 4 each.
        String shop = "shop 1 pace 0 at 4;";
        int[][] due = {{4, 3}, {5, 2}, {6, 2}, {7, 1}, {12, 1}, {13, 0}};
        PatentRaces three = of(shop + shop + shop + "prize 12;weeks 1;");
        PatentRaces two = of(shop + shop + "prize 12;weeks 1;");
        PatentRaces one = of(shop + "prize 12;weeks 1;");
        for (int[] d : due) {
            due(d[1], "of three entry(" + d[0] + ")", () -> three.entry(d[0]));
            due(Math.min(2, d[1]), "of two entry(" + d[0] + ")", () -> two.entry(d[0]));
            due(Math.min(1, d[1]), "of one entry(" + d[0] + ")", () -> one.entry(d[0]));
        }
        due(3, "a FEE of 0", () -> of("shop 1;shop 1;shop 1;").entry(0));
        due(0, "a FEE of 1", () -> of("shop 1;shop 1;shop 1;").entry(1));
        // The first alone has nothing to learn from, with the second it has.
        PatentRaces gap = of("shop 2 pace 0 at 1;shop 1;learn 3 behind 1;prize 16 second 8;weeks 2;");
        due(2, "two can, though one can't", () -> gap.entry(2));
        due(0, "the second has 2", () -> gap.entry(3));
    }

    private static void entryOfAll() {
        about("so that each of them has WORTH of a told FEE or more");
        PatentRaces x = of("shop 1 pace 0 at 4;shop 2;shop 1 pace 0 at 4;prize 8;weeks 1;leave 1<0;");
        due(1, "the second has nothing", () -> x.entry(1));
        due(3, "a FEE of 0", () -> x.entry(0));
        PatentRaces y = of("shop 2;shop 1 pace 0 at 4;prize 8;weeks 1;leave 1<0;");
        due(0, "the first has nothing, alone or not", () -> y.entry(1));
        // A row that is no REST may leave one with less than nothing: -3 to the first, 41 to the second.
        PatentRaces z = of("shop 2 pace 3 at 4 pace 2 at 1;shop 1 pace 0 at 2 pace 9 at 4;prize 50;weeks 2;");
        due(1, "a FEE of 0 is more than that", () -> z.entry(0));
    }

    // ---- EDGE ----

    private static void edgeWithinTen() {
        about("the least PRIZE above that of the RACE (by 1 to 10); NONE: none in 10");
        // It runs if half of the PRIZE is more than the cost.
        for (int prize = 0; prize <= 30; prize++) {
            PatentRaces x = of("shop 1 pace 10 at 2;weeks 1;prize " + prize + ";");
            due(prize >= 11 && prize <= 20 ? 21 : -1, "it has " + prize, x::edge);
        }
        due(-1, "no PACE", () -> of("shop 1;").edge());
        due(1, "by 1", () -> of("shop 1 pace 0 at 4;weeks 1;").edge());
        thrown(STATE, "edge() without a RACE", () -> new PatentRaces().edge());
    }

    private static void edgeOfTheRow() {
        about("for which THE ROW at the beginning is another one");
        // In the last week, and with one STEP less, it would run by 7; with all it can't come in time.
        due(-1, "the beginning alone", () -> of("shop 2 pace 3 at 2;prize 5;weeks 1;").edge());
        // One SHOP's DOING is enough: the second runs beside the first if a whole half of the PRIZE is more than 7.
        due(16, "the second comes in, too", () -> of(CHICKEN).edge());
        due(-1, "the same LEAVES by 31 to 40", () -> of(AWAY).edge());
        due(13, "another PACE", () -> of("shop 1 pace 4 at 2 pace 10 at 4;prize 12;weeks 1;").edge());
    }

    private static void edgeAboveAll() {
        about("above that of the RACE: 9,999 is no bound of it");
        due(10_000, "by 1", () -> of(above(9999)).edge());
        due(10_000, "by 10", () -> of(above(9990)).edge());
        due(-1, "by 11", () -> of(above(9989)).edge());
    }

    /** Where a half of the PRIZE is no more than 4,999 one may as well rest, and have the second; by 10,000 both run. */
    private static String above(int prize) {
        return "shop 1 pace 0 at 4;shop 1 pace 0 at 4;weeks 1;leave 1<0;prize " + prize + " second 4999;";
    }

    private static void edgeStays() {
        about("edge: it asks, and changes nothing");
        PatentRaces x = of("shop 1 pace 3 at 2;prize 5;weeks 2;");
        due(7, "edge()", x::edge);
        due(7, "edge() again", x::edge);
        due(5, "told(2)", () -> x.told(2));
        due(0, "doing", () -> x.doing(2, 1, 1, 0));
        due(0, "worth", () -> x.worth(2, 1, 1, 0));
        x.image();
        tell(x, ONE);
        due(-1, "of the RACE that is told now", x::edge);
        x.restore();
        due(7, "of the RACE of the IMAGE", x::edge);
    }

    // ---- RUN ----

    private static void whats() {
        about("run: another what");
        PatentRaces x = of("shop 1;");
        PatentRaces none = new PatentRaces();
        for (int what : new int[] {LEAST, -1, 0, 1, 2, 3, 4, 5, MOST}) {
            int[] due = {4, 0, 0, 1};
            boolean stands = what >= 0 && what <= 3;
            dueOrThrown(stands, stands ? due[what] : 0, ARGUMENT, "run(7, " + what + ")", () -> x.run(7, what));
            thrown(STATE, "without a RACE run(7, " + what + ")", () -> none.run(7, what));
        }
    }

    private static final int[] SEEDS = {LEAST, LEAST + 1, -1_103_515_245, -12_345, -65_536, -2, -1, 0, 1, 2, 3, 5, 77, 12_345, 65_535, 65_536,
        131_072, 196_608, 262_144, 1_103_515_245, MOST - 1, MOST};

    private static void draws() {
        about("a DRAW: it becomes itself times 1,103,515,245, and 12,345 (it wraps); its bits 16 and 17 (0 to 3), below the CHANCE");
        for (int chance = 1; chance <= 4; chance++) {
            PatentRaces x = of("shop 1 pace 3 at " + chance + ";prize 99;weeks 1;");
            for (int seed : SEEDS) {
                // By whole numbers that do not wrap: the last 18 bits are enough.
                long draw = (seed * 1_103_515_245L + 12_345L >> 16) & 3;
                int made = draw < chance ? 1 : 0;
                due(made, "run(" + seed + ", 1) at " + chance, () -> x.run(seed, 1));
                due(1, "run(" + seed + ", 0)", () -> x.run(seed, 0));
                due(3, "run(" + seed + ", 2)", () -> x.run(seed, 2));
                due(1, "run(" + seed + ", 3)", () -> x.run(seed, 3));
            }
        }
    }

    private static void drawsByOrder() {
        about("SHOP by SHOP that runs (rest and LEAVE draw nothing), week by week by THE ROWS, till it is OVER");
        String[] texts = {"shop 2 pace 1 at 2;shop 1 pace 2 at 1;prize 90;weeks 6;", "shop 1 pace 0 at 1;shop 2;shop 2;prize 4 second 1;weeks 3;",
            "shop 2;shop 3 pace 2 at 2;shop 1 pace 1 at 1;prize 99;weeks 5;", "shop 2 pace 1 at 2;shop 4 pace 1 at 2;learn 2 behind 1;prize 99;weeks 6;",
            "shop 3 pace 1 at 1;shop 3 pace 5 at 3;shop 3 pace 2 at 2;learn 1 behind 1;prize 300 second 90;weeks 6;",
            "shop 1 pace 0 at 2;shop 1;shop 1;prize 0 second 1;weeks 2;", "shop 4;",
            AWAY,
            "shop 3 pace 9 at 3;shop 3 pace 0 at 1;shop 1 pace 2 at 3;prize 3 second 1;weeks 2;",
            "shop 2 pace 9 at 1 pace 9 at 2 pace 9 at 3;shop 1 pace 4 at 0 pace 4 at 1 pace 3 at 2;prize 90;weeks 6;"};
        for (String text : texts) {
            PatentRaces x = of(text);
            for (int k = 0; k < 40; k++) {
                int seed = k < SEEDS.length ? SEEDS[k] : k * 40_503 * 65_537;
                int[] due = driven(x, seed);
                for (int what = 0; what < 4; what++) {
                    int w = what;
                    due(due[w], "run(" + seed + ", " + w + ") of \"" + text + "\"", () -> x.run(seed, w));
                }
            }
        }
    }

    /** The RUN told by the rows, costs and chances that the class tells itself. */
    private static int[] driven(PatentRaces x, int seed) {
        int shops = x.told(0);
        int[] steps = new int[3];
        for (int i = 0; i < shops; i++) {
            steps[i] = x.shop(i, 0);
        }
        int in = (1 << shops) - 1;
        int draw = seed;
        int weeks = 0;
        int paid = 0;
        int won = 0;
        while (weeks < x.told(1) && in != 0 && won == 0) {
            int digits = steps[0] + 10 * steps[1] + 100 * steps[2];
            int[] doings = new int[3];
            int[] chances = new int[3];
            for (int i = 0; i < shops; i++) {
                doings[i] = x.doing(x.told(1) - weeks, digits, in, i);
                chances[i] = doings[i] % 4 == 0 ? 0 : chance(x, steps, in, i, doings[i]);
            }
            for (int i = 0; i < shops; i++) {
                if (doings[i] == 4) {
                    in &= ~(1 << i);
                } else if (doings[i] > 0) {
                    draw = draw * 1_103_515_245 + 12_345;
                    paid += x.shop(i, 1 + doings[i]);
                    steps[i] -= (draw & 0x30000) >> 16 < chances[i] ? 1 : 0;
                    won |= steps[i] == 0 ? 1 << i : 0;
                }
            }
            weeks++;
        }
        return new int[] {weeks, won, paid, in};
    }

    private static int chance(PatentRaces x, int[] steps, int in, int shop, int pace) {
        boolean learns = false;
        for (int i = 0; i < x.told(0); i++) {
            learns |= i != shop && (in >> i & 1) == 1 && x.told(5) > 0 && steps[shop] - steps[i] >= x.told(5);
        }
        return x.shop(shop, 4 + pace) + (learns ? x.told(4) : 0);
    }

    private static void runsToTheEnd() {
        about("0 weeks that went by, 1 who has it (bits), 2 COSTS of all, 3 who is IN at the end (bits)");
        String sure = "shop 1 pace 1 at 4;";
        int[][] due = {{1, 1, 1, 1}, {1, 3, 2, 3}, {1, 7, 3, 7}};
        for (int shops = 1; shops <= 3; shops++) {
            PatentRaces x = of(sure.repeat(shops) + "prize 90;weeks 1;");
            for (int what = 0; what < 4; what++) {
                int w = what;
                due(due[shops - 1][w], "of " + shops + " run(1, " + w + ")", () -> x.run(1, w));
            }
        }
        PatentRaces rest = of("shop 4;shop 4;shop 4;weeks 6;");
        int[] none = {6, 0, 0, 7};
        PatentRaces left = of("shop 1 pace 0 at 4;shop 2;shop 2;prize 4 second 1;weeks 1;");
        int[] gone = {1, 1, 0, 3};
        // The first LEAVES at once, the second has it in the last week.
        PatentRaces first = of(AWAY);
        int[] others = {2, 2, 0, 6};
        // The third PACE is the best.
        PatentRaces third = of("shop 1 pace 9 at 1 pace 9 at 2 pace 8 at 4;prize 90;weeks 1;");
        int[] eight = {1, 1, 8, 1};
        PatentRaces four = of("shop 4 pace 99 at 4;prize 9999;");
        int[] all = {4, 1, 396, 1};
        for (int what = 0; what < 4; what++) {
            int w = what;
            due(none[w], "nobody runs: run(0, " + w + ")", () -> rest.run(0, w));
            due(gone[w], "one has left: run(0, " + w + ")", () -> left.run(0, w));
            due(all[w], "four weeks: run(0, " + w + ")", () -> four.run(0, w));
            due(others[w], "the first has left: run(0, " + w + ")", () -> first.run(0, w));
            due(eight[w], "by the third PACE: run(0, " + w + ")", () -> third.run(0, w));
        }
    }

    // ---- IMAGES ----

    private static void threeImages() {
        about("image: how many there are; -1: there are 3");
        PatentRaces x = of(ONE);
        due(-1, "restore() of none", x::restore);
        for (int i = 1; i <= 3; i++) {
            due(i, "image " + i, x::image);
            due(i, "count(2)", () -> x.count(2));
        }
        x.rule(0, 1, 1, 1);
        due(-1, "image 4", x::image);
        due(3, "count(2)", () -> x.count(2));
        for (int left = 2; left >= 0; left--) {
            due(left, "restore()", x::restore);
            due(left, "count(2)", () -> x.count(2));
            due(0, "the fourth is none of them", () -> x.count(0));
        }
        due(-1, "restore()", x::restore);
        due(0, "count(2)", () -> x.count(2));
        due(1, "image() after all are gone", x::image);
    }

    private static void latestImage() {
        about("restore: all is as in the latest IMAGE, which is gone");
        PatentRaces x = new PatentRaces();
        String[] texts = {"shop 1;prize 1;", "shop 1;shop 2;prize 2;", "shop 1;shop 2;shop 3;prize 3;"};
        for (int i = 0; i < 3; i++) {
            tell(x, texts[i]);
            x.rule(i, 1, 1, i + 1);
            x.offer(10 * i);
            due(i + 1, "image()", x::image);
        }
        tell(x, ONE);
        x.offer(99);
        x.rule(0, 1, 2, 4);
        for (int i = 2; i >= 0; i--) {
            int n = i;
            due(n, "restore()", x::restore);
            due(n + 1, "SHOPS", () -> x.told(0));
            due(n + 1, "prize", () -> x.told(2));
            due(n + 1, "PRIZES", () -> x.count(1));
            due(1, "RULES", () -> x.count(0));
            due(n + 1, "the RULE", () -> x.rule(n, 1, 1, n + 1));
        }
        due(-1, "restore()", x::restore);
        due(1, "told(0): it does nothing", () -> x.told(0));
        due(0, "king(0)", () -> x.king(0));
    }

    private static void imageWithoutRace() {
        about("an IMAGE of no RACE");
        PatentRaces x = new PatentRaces();
        due(1, "image()", x::image);
        tell(x, ONE);
        x.offer(3);
        x.rule(0, 1, 9, 1);
        put(x, "shop 1;");
        due(0, "restore()", x::restore);
        for (int what = 0; what <= 6; what++) {
            int w = what;
            due(0, "told(" + w + ")", () -> x.told(w));
        }
        due(0, "RULES", () -> x.count(0));
        due(0, "PRIZES", () -> x.count(1));
        due(20, "the TAPE is none of it", () -> x.count(3));
        thrown(STATE, "judged(0)", () -> x.judged(0));
        thrown(ELEMENT, "rule(0, 1, 9, 1)", () -> x.rule(0, 1, 9, 1));
        due(1, "race(7)", () -> x.race(7));
        due(0, "RULES", () -> x.rule(0, 1, 9, 0));
    }

    private static void imageIsACopy() {
        about("an IMAGE of the RACE, its RULES, the KING's PRIZES");
        PatentRaces x = of("shop 2 pace 1 at 4;shop 2 pace 3 at 2;prize 40 second 4;weeks 4;learn 1 behind 1;leave own>1;sell own=2;");
        x.rule(0, 2, 2, 1);
        x.rule(0, 1, 2, 1);
        x.offer(7);
        String before = picture(x);
        x.image();
        x.rule(0, 2, 2, 0);
        x.offer(6);
        x.restore();
        check(picture(x).equals(before), "RULES and PRIZES");
        x.image();
        tell(x, "shop 4 pace 9 at 4 pace 1 at 1;shop 3;shop 2;prize 1;weeks 6;learn 4 behind 3;leave 1<0;");
        x.rule(2, 1, 1, 4);
        picture(x);
        x.restore();
        check(picture(x).equals(before), "the RACE, its conditions too: " + picture(x) + ", and was " + before);
    }

    private static String picture(PatentRaces x) {
        StringBuilder all = new StringBuilder();
        for (int what = 0; what <= 6; what++) {
            all.append(x.told(what)).append(' ');
        }
        for (int shop = 0; shop < x.told(0); shop++) {
            for (int what = 0; what <= 7; what++) {
                all.append(x.shop(shop, what)).append(' ');
            }
            all.append(x.judged(shop)).append(' ').append(x.first(shop)).append(' ').append(x.leavers(shop)).append(' ');
        }
        all.append(x.count(0)).append(' ').append(x.count(1)).append(' ').append(x.king(3)).append(' ').append(x.edge()).append(' ');
        all.append(x.breaks()).append(' ').append(x.sold(0, 1)).append(' ').append(x.entry(5)).append(' ').append(x.run(5, 2)).append(' ');
        return all.append(x.waste()).append(' ').append(x.late()).toString();
    }

    private static void counts() {
        about("count: NONE for others");
        PatentRaces x = of(ONE);
        for (int what : new int[] {LEAST, -2, -1, 4, 5, MOST}) {
            due(-1, "count(" + what + ")", () -> x.count(what));
        }
        due(0, "RULES", () -> x.count(0));
        x.rule(0, 1, 1, 3);
        x.rule(0, 4, 9, 4);
        x.rule(0, 3, 3, 0);
        due(2, "RULES that are not rest, whether it has the PACE or not", () -> x.count(0));
        x.rule(0, 1, 1, 0);
        due(1, "RULES", () -> x.count(0));
        due(0, "PRIZES", () -> x.count(1));
        due(0, "IMAGES", () -> x.count(2));
        due(0, "bytes of the TAPE", () -> x.count(3));
        x.feed(0, 0, 0, 0, 0);
        due(20, "bytes of the TAPE", () -> x.count(3));
    }
}
