/** The bounds of what comes by THE ROWS, of JOINED and of SOLD (==== 4, promises 18 to 25), sentence by sentence. */
public final class OutcomeBoundsTest extends Checks {
    private static final String ONE = "shop 1 pace 3 at 2;prize 10;weeks 2;";
    private static final String LEAVING = "shop 1 pace 0 at 4;shop 2;shop 2;prize 4 second 1;weeks 1;";

    public static void main(String[] args) {
        firstOfWhom();
        firstTogether();
        firstWithoutAPart();
        nobody();
        late();
        waste();
        byAllChances();
        plainStates();
        harderThanAnother();
        behindTheFirst();
        leaversOf();
        joinedWhom();
        joinedIsTheRaceWithout();
        joinedOrder();
        joinedPaces();
        joinedStays();
        soldWhom();
        soldWhere();
        soldWorth();
        end("what comes of it is as told");
    }

    // ---- FIRST, LATE, WASTE ----

    private static void firstOfWhom() {
        about("first (NONE as SHOP: NOBODY)");
        String text = "";
        for (int shops = 1; shops <= 3; shops++) {
            text += "shop 1;";
            PatentRaces x = of(text + "weeks 6;");
            for (int shop : new int[] {LEAST, -3, -2, 0, 1, 2, 3, 4, MOST}) {
                dueOrThrown(shop >= 0 && shop < shops, 0, ELEMENT, "first(" + shop + ")", () -> x.first(shop));
            }
            due(1L << 12 * shops, "NOBODY, the whole SCALE", () -> x.first(PatentRaces.NONE));
        }
    }

    private static void firstTogether() {
        about("the chance that a SHOP that is IN comes to 0 STEPS (also if others do in the same week)");
        PatentRaces x = of("shop 1 pace 1 at 2;shop 1 pace 1 at 3;shop 1 pace 1 at 1;prize 90;weeks 1;");
        due(64 / 4 * 2, "first(0)", () -> x.first(0));
        due(64 / 4 * 3, "first(1)", () -> x.first(1));
        due(64 / 4, "first(2)", () -> x.first(2));
        due(2 * 1 * 3, "NOBODY: 2, 1 and 3 of 4", () -> x.first(-1));
        PatentRaces y = of(ONE);
        due(12, "a half and a half of a half", () -> y.first(0));
        due(4, "NOBODY", () -> y.first(-1));
    }

    private static void firstWithoutAPart() {
        about("and if its part is 0");
        // It runs for the sum of all: the other has the second by it.
        PatentRaces x = of("shop 1 pace 0 at 4;shop 2;prize 0 second 5;weeks 1;");
        due(16, "first(0)", () -> x.first(0));
        due(0, "first(1): it has the second alone", () -> x.first(1));
        due(0, "NOBODY", () -> x.first(-1));
        due(0, "its WORTH", () -> x.worth(1, 21, 3, 0));
    }

    private static void nobody() {
        about("NOBODY: that none does");
        PatentRaces x = of("shop 4 pace 1 at 4;prize 99;weeks 3;");
        due(64, "four STEPS in three weeks", () -> x.first(-1));
        due(0, "first(0)", () -> x.first(0));
        PatentRaces y = of("shop 4 pace 1 at 4;prize 99;weeks 4;");
        due(0, "four STEPS in four weeks", () -> y.first(-1));
        due(256, "first(0)", () -> y.first(0));
        PatentRaces z = of("shop 1 pace 9 at 4;prize 9;weeks 6;");
        due(4096, "it has no more by it than by rest", () -> z.first(-1));
    }

    private static void late() {
        about("LATE: weeks that go by till it is OVER, by chance, in SCALE");
        String text = "";
        for (int shops = 1; shops <= 3; shops++) {
            text += "shop 1;";
            for (int weeks = 1; weeks <= 6; weeks++) {
                PatentRaces x = of(text + "weeks " + weeks + ";");
                due((long) weeks << 2 * weeks * shops, "all of " + weeks + " weeks", x::late);
            }
        }
        due(6L << 36, "the greatest LATE", () -> of("shop 4 pace 99 at 4;shop 1;shop 1;weeks 6;").late());
        due(24, "one week and a half", () -> of(ONE).late());
        // It can wait till the last week: rest is the first of rows that are as good.
        due(6L << 12, "the last week is as good", () -> of("shop 1 pace 1 at 4;prize 9;weeks 6;").late());
        due(64, "one week, with one that LEAVES", () -> of(LEAVING).late());
    }

    private static void waste() {
        about("WASTE: COSTS of all, by chance, in SCALE");
        due(72, "3 and half of 3", () -> of(ONE).waste());
        due(0, "nobody runs", () -> of("shop 1 pace 99 at 4;prize 99;weeks 6;").waste());
        due((99L + 98 + 97) * 64, "all pay", () -> of("shop 1 pace 99 at 4;shop 1 pace 98 at 4;shop 1 pace 97 at 4;prize 9999;weeks 1;").waste());
        due(99L * 4 * 256, "four weeks", () -> of("shop 4 pace 99 at 4;prize 9999;").waste());
        due(0, "LEAVE costs nothing", () -> of(LEAVING).waste());
    }

    /** By the worths that the class tells itself: what all have is what is parted less the WASTE. */
    private static void byAllChances() {
        about("FIRST, LATE and WASTE hang together");
        for (String shops : new String[] {"shop 2 pace 3 at 3 pace 9 at 4;", "shop 2 pace 3 at 3;shop 1 pace 2 at 2;",
            "shop 2 pace 3 at 3;shop 1 pace 2 at 2;shop 3 pace 0 at 2;"}) {
            for (int weeks = 1; weeks <= 6; weeks++) {
                PatentRaces x = of(shops + "prize 60;leave 1<0;weeks " + weeks + ";");
                int n = x.told(0);
                long scale = 1L << 2 * weeks * n;
                long worths = 0;
                long firsts = 0;
                for (int shop = 0; shop < n; shop++) {
                    worths += worthOfBeginning(x, shop);
                    firsts += x.first(shop);
                }
                long nobody = x.first(-1);
                check(firsts + nobody >= scale, "some come to it in the same week: " + firsts + " and " + nobody);
                check(n > 1 || firsts + nobody == scale, "one SHOP: " + firsts + " and " + nobody);
                // 60 is parted in whole parts among one, two or three.
                due((scale - nobody) * 60 - worths, "WASTE with " + weeks + " weeks", x::waste);
                check(x.late() >= scale && x.late() <= weeks * scale, "LATE is " + x.late());
                check(nobody == 0 || x.late() >= nobody * weeks, "LATE is " + x.late());
            }
        }
    }

    private static long worthOfBeginning(PatentRaces x, int shop) {
        return x.worth(x.told(1), beginning(x), (1 << x.told(0)) - 1, shop);
    }

    private static int beginning(PatentRaces x) {
        int steps = 0;
        for (int shop = x.told(0) - 1; shop >= 0; shop--) {
            steps = 10 * steps + x.shop(shop, 0);
        }
        return steps;
    }

    // ---- HARDER, LEAVERS ----

    private static int digit(int steps, int shop) {
        return shop == 0 ? steps % 10 : shop == 1 ? steps / 10 % 10 : steps / 100;
    }

    private static boolean isPlain(PatentRaces x, int steps) {
        for (int shop = 0; shop < 3; shop++) {
            int most = shop < x.told(0) ? x.shop(shop, 0) : 0;
            if (digit(steps, shop) > most || digit(steps, shop) < Math.min(1, most)) {
                return false;
            }
        }
        return true;
    }

    private static int paid(PatentRaces x, int weeks, int steps, int shop) {
        int doing = x.doing(weeks, steps, (1 << x.told(0)) - 1, shop);
        return doing >= 1 && doing <= 3 ? x.shop(shop, 1 + doing) : 0;
    }

    private static boolean isHarder(PatentRaces x, int weeks, int steps) {
        for (int shop = 0; shop < x.told(0); shop++) {
            for (int other = 0; other < x.told(0); other++) {
                if (digit(steps, shop) > digit(steps, other) && paid(x, weeks, steps, shop) > paid(x, weeks, steps, other)) {
                    return true;
                }
            }
        }
        return false;
    }

    private static void plainStates() {
        about("PLAIN STATES: all IN, weeks from 1 to the RACE's, STEPS from 1 to those at the beginning");
        String[] texts = {"shop 3 pace 1 at 2;", "shop 2;shop 3 pace 5 at 3;", "shop 3 pace 5 at 3;shop 2;", "shop 4 pace 1 at 2 pace 5 at 4;"
            + "shop 3 pace 2 at 3 pace 7 at 4;", "shop 2 pace 2 at 2;shop 2 pace 3 at 3;shop 3 pace 4 at 4;", "shop 1;shop 4 pace 2 at 2;shop 2;",
            "shop 1 pace 0 at 4;shop 2;shop 3;", "shop 1 pace 0 at 4;shop 3;shop 2;"};
        int some = 0;
        int left = 0;
        for (String text : texts) {
            for (String more : new String[] {"prize 90;weeks 3;", "prize 30 second 1;weeks 2;", "prize 60;weeks 4;learn 2 behind 1;"}) {
                PatentRaces x = of(text + more);
                some += harderByStates(x);
                left += leaversByStates(x);
            }
        }
        check(some > 20 && left > 5, "there are too few of them: " + some + " and " + left);
    }

    private static int harderByStates(PatentRaces x) {
        int harder = 0;
        int first = -1;
        for (int weeks = x.told(1); weeks >= 1; weeks--) {
            for (int steps = 1; steps <= 444; steps++) {
                if (isPlain(x, steps) && isHarder(x, weeks, steps)) {
                    harder++;
                    first = first == -1 ? 1000 * weeks + steps : first;
                }
            }
        }
        due(harder, "harder()", x::harder);
        due(first, "behind()", x::behind);
        return harder;
    }

    private static int leaversByStates(PatentRaces x) {
        int all = 0;
        for (int shop = 0; shop < x.told(0); shop++) {
            int leavers = 0;
            for (int weeks = 1; weeks <= x.told(1); weeks++) {
                for (int steps = 1; steps <= 444; steps++) {
                    leavers += isPlain(x, steps) && x.doing(weeks, steps, (1 << x.told(0)) - 1, shop) == 4 ? 1 : 0;
                }
            }
            int s = shop;
            due(leavers, "leavers(" + s + ")", () -> x.leavers(s));
            all += leavers;
        }
        return all;
    }

    private static void harderThanAnother() {
        about("some SHOP has more STEPS than another one, and pays more a week");
        due(0, "as many STEPS are not more", () -> of("shop 1 pace 3 at 4;shop 1;prize 9;weeks 1;").harder());
        due(0, "fewer STEPS are not more", () -> of("shop 1 pace 3 at 4;shop 2;prize 9;weeks 1;").harder());
        // Both of 2 and of 1 STEP run in two weeks, and pay the same.
        PatentRaces same = of("shop 1 pace 3 at 1;shop 2 pace 3 at 4;prize 90;weeks 2;leave 1<0;");
        due(1, "both run", () -> same.doing(2, 21, 3, 0) * same.doing(2, 21, 3, 1));
        due(0, "as much is not more", same::harder);
        PatentRaces more = of("shop 1 pace 3 at 1;shop 2 pace 4 at 4;prize 90;weeks 2;leave 1<0;");
        due(1, "4 is more than 3", more::harder);
        due(2021, "with two weeks", more::behind);
        PatentRaces less = of("shop 1 pace 4 at 1;shop 2 pace 3 at 4;prize 90;weeks 2;leave 1<0;");
        due(0, "3 is less than 4", less::harder);
        // Of three one that has fewer STEPS, and pays less, will do.
        PatentRaces three = of("shop 1 pace 9 at 1;shop 2 pace 4 at 4;shop 1;prize 90;weeks 2;leave 1<0;");
        due(2121, "more than the third", three::behind);
        // In the last week, for a part of the second: (1, 1, 2), (1, 2, 2) and (1, 2, 3).
        PatentRaces last = of("shop 1 pace 0 at 4;shop 2;shop 3 pace 5 at 4;prize 9 second 20;weeks 1;leave 1<0;");
        due(3, "the last week counts, too", last::harder);
        due(1211, "the last week counts, too", last::behind);
        due(0, "one SHOP alone", () -> of("shop 4 pace 3 at 4;prize 99;weeks 6;").harder());
    }

    private static void behindTheFirst() {
        about("by weeks left falling, then by STEPS as digits rising: 1,000 times the weeks and the STEPS; NONE");
        due(-1, "one SHOP alone", () -> of("shop 4 pace 3 at 4;prize 99;weeks 6;").behind());
        due(-1, "nobody pays", () -> of("shop 2;shop 3;").behind());
        // The second runs if it still can come in time, and if it can't wait.
        due(3021, "of 21, 31, 32 the least digits that can't wait", () -> of("shop 2;shop 3 pace 5 at 3;prize 90;weeks 3;").behind());
        due(3012, "SHOP 0 is the lowest digit", () -> of("shop 3 pace 5 at 3;shop 2;prize 90;weeks 3;").behind());
        due(2112, "three digits", () -> of("shop 2 pace 5 at 3;shop 2;shop 1;prize 90;weeks 2;").behind());
        due(2121, "three digits", () -> of("shop 1;shop 2 pace 5 at 3;shop 1;prize 90;weeks 2;").behind());
        due(2211, "three digits", () -> of("shop 2;shop 1;shop 2 pace 5 at 3;prize 90;weeks 2;").behind());
        due(6021, "six weeks", () -> of("shop 2;shop 2 pace 5 at 3;prize 90;weeks 6;").behind());
    }

    private static void leaversOf() {
        about("LEAVERS of a SHOP");
        PatentRaces x = of(LEAVING);
        for (int shop : new int[] {LEAST, -1, 0, 1, 2, 3, MOST}) {
            // SHOP 2 LEAVES with (1, 1, 1) and with (1, 2, 2): the second of 1 can't be parted.
            dueOrThrown(shop >= 0 && shop <= 2, shop == 2 ? 2 : 0, ELEMENT, "leavers(" + shop + ")", () -> x.leavers(shop));
        }
        due(0, "leave never holds", () -> of(LEAVING + "leave 1<0;").leavers(2));
        // With two weeks left: if it stays the third pays 2 to come ahead of it, and the sum is less by that.
        PatentRaces two = of("shop 2;shop 1 pace 0 at 4;shop 2 pace 1 at 2 pace 2 at 4;prize 30 second 21;weeks 2;");
        due(4, "it LEAVES", () -> two.doing(2, 212, 7, 0));
        due(0, "the last week", () -> two.doing(1, 212, 7, 0));
        due(2, "the last week", () -> two.doing(1, 212, 7, 2));
        check(two.leavers(0) >= 1, "leavers(0) is " + two.leavers(0));
        due(1, "leave holds with 1 STEP alone", () -> of(LEAVING + "leave own=1;").leavers(2));
        due(0, "one alone has no more by LEAVE than by rest", () -> of("shop 4 pace 9 at 1;weeks 6;").leavers(0));
        thrown(ELEMENT, "leavers(1) of one", () -> of("shop 1;").leavers(1));
    }

    // ---- JOINED ----

    private static void joinedWhom() {
        about("joined: they are one; no such SHOP");
        pairs("shop 1;", 1);
        pairs("shop 1;shop 2;", 2);
        pairs("shop 1;shop 2;shop 3;", 3);
    }

    private static void pairs(String text, int shops) {
        PatentRaces x = of(text);
        int[] asked = {LEAST, -1, 0, 1, 2, 3, MOST};
        for (int one : asked) {
            for (int other : asked) {
                boolean are = one >= 0 && one < shops && other >= 0 && other < shops;
                String who = "(" + one + ", " + other + ")";
                dueOrThrown(are && one != other, 0, are ? ARGUMENT : ELEMENT, "joined" + who, () -> x.joined(one, other));
                dueOrThrown(are && one != other, -1, are ? ARGUMENT : ELEMENT, "sold" + who, () -> x.sold(one, other));
            }
        }
    }

    /** What comes to a SHOP at the beginning of a RACE told as a text. */
    private static long worthIn(String text, int shop) {
        PatentRaces x = of(text);
        return worthOfBeginning(x, shop);
    }

    private static void joinedIsTheRaceWithout() {
        about("JOINED are two SHOPS: the RACE without the second (in the SCALE of that RACE)");
        String rest = "prize 60 second 12;weeks 3;learn 1 behind 1;leave own>1;";
        String a = "shop 3 pace 1 at 1 pace 5 at 3;";
        String b = "shop 2 pace 2 at 2;";
        String c = "shop 1 pace 4 at 1 pace 3 at 1 pace 9 at 4;";
        // The fewer STEPS, of each PACE the greater CHANCE, both COSTS together.
        String ab = "shop 2 pace 3 at 2 pace 5 at 3;";
        String ac = "shop 1 pace 5 at 1 pace 8 at 3 pace 9 at 4;";
        String bc = "shop 1 pace 6 at 2 pace 3 at 1 pace 9 at 4;";
        PatentRaces x = of(a + b + c + rest);
        due(worthIn(ab + c + rest, 0), "joined(0, 1)", () -> x.joined(0, 1));
        due(worthIn(ab + c + rest, 0), "joined(1, 0)", () -> x.joined(1, 0));
        due(worthIn(ac + b + rest, 0), "joined(0, 2)", () -> x.joined(0, 2));
        due(worthIn(b + ac + rest, 1), "joined(2, 0)", () -> x.joined(2, 0));
        due(worthIn(a + bc + rest, 1), "joined(1, 2)", () -> x.joined(1, 2));
        due(worthIn(a + bc + rest, 1), "joined(2, 1)", () -> x.joined(2, 1));
        PatentRaces y = of(a + c + rest);
        due(worthIn(ac + rest, 0), "of two, joined(0, 1)", () -> y.joined(0, 1));
        due(worthIn(ac + rest, 0), "of two, joined(1, 0)", () -> y.joined(1, 0));
        PatentRaces z = of(a + a + rest);
        due(worthIn("shop 3 pace 2 at 1 pace 10 at 3;" + rest, 0), "of two that are alike", () -> z.joined(1, 0));
        PatentRaces w = of("shop 4;shop 4;shop 4;" + rest);
        due(0, "none has a PACE", () -> w.joined(2, 1));
    }

    private static void joinedOrder() {
        about("the RACE without the second: the others keep their order");
        // Chicken: one of two runs, the later of equal ones.
        String one = "shop 1 pace 6 at 4;";
        PatentRaces x = of(one + one + "shop 1 pace 0 at 0;prize 10;weeks 1;");
        due(0, "(0, 2), 1: the first of both rests", () -> x.joined(0, 2));
        due(4 * 16, "0, (2, 1): the second runs", () -> x.joined(1, 2));
        due(4 * 16, "0, (2, 1) in the place of SHOP 2", () -> x.joined(2, 1));
        due(4 * 16, "1, (2, 0) in the place of SHOP 2", () -> x.joined(2, 0));
    }

    private static void joinedPaces() {
        about("of each PACE the greater CHANCE, and both COSTS together (a PACE that one of them has not counts as 0 for it)");
        due(2 * 4, "99 and 99", () -> of("shop 1 pace 99 at 4;shop 1 pace 99 at 0;prize 200;weeks 1;").joined(0, 1));
        due(0, "198 is no less than that", () -> of("shop 1 pace 99 at 4;shop 1 pace 99 at 4;prize 198;weeks 1;").joined(0, 1));
        due((20 - 5) * 4, "the other has no PACE", () -> of("shop 1 pace 5 at 4;shop 1;prize 20;weeks 1;").joined(0, 1));
        due((20 - 5) * 4, "the first has no PACE", () -> of("shop 1 pace 5 at 4;shop 1;prize 20;weeks 1;").joined(1, 0));
        due((20 - 3) * 4, "the third PACE of one", () -> of("shop 1;shop 1 pace 1 at 0 pace 2 at 0 pace 3 at 4;prize 20;weeks 1;").joined(0, 1));
        due((20 - 7) * 4, "PACE by PACE", () -> of("shop 1 pace 5 at 0;shop 1 pace 2 at 4 pace 9 at 4;prize 20;weeks 1;").joined(0, 1));
        due((20 - 6) * 4, "the fewer STEPS", () -> of("shop 4 pace 6 at 4;shop 1;prize 20;weeks 1;").joined(0, 1));
        due((20 - 6) * 4, "the fewer STEPS", () -> of("shop 1;shop 4 pace 6 at 4;prize 20;weeks 1;").joined(0, 1));
        due(0, "the fewer STEPS", () -> of("shop 2;shop 4 pace 6 at 4;prize 20;weeks 1;").joined(1, 0));
    }

    private static void joinedStays() {
        about("joined: it asks, and changes nothing");
        PatentRaces x = of("shop 3 pace 1 at 4;shop 1 pace 2 at 3;shop 2 pace 5 at 4;prize 20;weeks 3;sell 1=1;");
        long worth = worthOfBeginning(x, 2);
        long sold = x.sold(0, 2);
        x.joined(0, 2);
        due(3, "told(0)", () -> x.told(0));
        due(3, "STEPS of the first", () -> x.shop(0, 0));
        due(2, "STEPS of the third", () -> x.shop(2, 0));
        due(1, "COST of the first", () -> x.shop(0, 2));
        due(worth, "its WORTH", () -> worthOfBeginning(x, 2));
        due(sold, "sold(0, 2)", () -> x.sold(0, 2));
    }

    // ---- SOLD ----

    private static void soldWhom() {
        about("sold: NONE: it can't be; they are one; no such SHOP");
        PatentRaces x = of("shop 2;shop 2;sell 1=1;");
        thrown(ARGUMENT, "sold(0, 0)", () -> x.sold(0, 0));
        thrown(ARGUMENT, "sold(1, 1)", () -> x.sold(1, 1));
        thrown(ELEMENT, "sold(2, 2)", () -> x.sold(2, 2));
        thrown(ELEMENT, "sold(0, 2)", () -> x.sold(0, 2));
        thrown(ELEMENT, "sold(-1, 0)", () -> x.sold(-1, 0));
        due(0, "sold(0, 1)", () -> x.sold(0, 1));
        due(0, "sold(1, 0)", () -> x.sold(1, 0));
    }

    private static void soldWhere() {
        about("where sell holds for the seller at the beginning, and the buyer has two STEPS or more");
        for (int seller = 1; seller <= 4; seller++) {
            for (int buyer = 1; buyer <= 4; buyer++) {
                PatentRaces always = of("shop " + seller + ";shop " + buyer + ";sell 1=1;");
                due(buyer >= 2 ? 0 : -1, seller + " to " + buyer, () -> always.sold(0, 1));
                due(seller >= 2 ? 0 : -1, buyer + " to " + seller, () -> always.sold(1, 0));
                PatentRaces ahead = of("shop " + seller + ";shop " + buyer + ";sell own<next;");
                due(buyer >= 2 && seller < buyer ? 0 : -1, seller + " to " + buyer, () -> ahead.sold(0, 1));
                due(seller >= 2 && buyer < seller ? 0 : -1, buyer + " to " + seller, () -> ahead.sold(1, 0));
            }
        }
        PatentRaces x = of("shop 4;shop 2;shop 3;weeks 6;sell own=3 and next=2 and week=6;");
        due(0, "next is of all others, the buyer or not", () -> x.sold(2, 0));
        due(0, "next is of all others, the buyer or not", () -> x.sold(2, 1));
        due(-1, "own is 4", () -> x.sold(0, 1));
        due(-1, "own is 2", () -> x.sold(1, 0));
    }

    private static void soldWorth() {
        about("WORTH (to both together, with one STEP less for the buyer) less what is WORTH to both as it is");
        String text = "shop 1 pace 2 at 4;shop 2 pace 1 at 4;shop 3 pace 1 at 2;prize 12 second 6;weeks 3;sell 1=1;";
        PatentRaces x = of(text);
        for (int seller = 0; seller < 3; seller++) {
            for (int buyer = 1; buyer < 3; buyer++) {
                int s = seller;
                int b = buyer;
                int after = 321 - (b == 1 ? 10 : 100);
                long due = x.worth(3, after, 7, s) + x.worth(3, after, 7, b) - x.worth(3, 321, 7, s) - x.worth(3, 321, 7, b);
                if (s != b) {
                    due(due, "sold(" + s + ", " + b + ")", () -> x.sold(s, b));
                }
            }
        }
        due(-16, "9 less 10, of 16", () -> of("shop 1 pace 2 at 4;shop 2 pace 1 at 4;prize 12;weeks 1;sell 1=1;").sold(0, 1));
        due(11 * 16, "the buyer comes in time by it", () -> of("shop 4;shop 2 pace 1 at 4;prize 12;weeks 1;sell 1=1;").sold(0, 1));
        due(9999L << 18, "four STEPS in three weeks are too many", () -> of("shop 4;shop 4 pace 0 at 4;shop 4;prize 9999;weeks 3;sell 1=1;").sold(2, 1));
    }
}
