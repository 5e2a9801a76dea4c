/** For each promise of the document calls with the answers that are due, worked by hand. */
public final class PromisesTest extends Checks {
    /** One SHOP: half a chance for 3, a prize of 10, two weeks. */
    private static final String ONE = "shop 1 pace 3 at 2;prize 10;weeks 2;";

    /**
     * Two SHOPS in a ring with two weeks left: against pace 1 of the first the second runs (2.5 > 0),
     * then the first had better take pace 2 (13 > 11.75), then the second rests (0 > -3), then pace 1 is
     * better again (16 > 13). The least GAIN is that of 1 and 1: 1.25.
     */
    private static final String RING = "shop 1 pace 0 at 2 pace 6 at 4;shop 2 pace 3 at 4;prize 19;weeks 2;";

    /** The second prize of 1 can't be parted: of the two that are behind one leaves it to the other. */
    private static final String LEAVING = "shop 1 pace 0 at 4;shop 2;shop 2;prize 4 second 1;weeks 1;";

    public static void main(String[] args) {
        newObject();
        feed();
        race();
        fault();
        told();
        shop();
        worth();
        doing();
        gain();
        unrest();
        rule();
        follow();
        judged();
        breaks();
        alone();
        best();
        answer();
        first();
        late();
        waste();
        harder();
        behind();
        leavers();
        joined();
        sold();
        offer();
        king();
        entry();
        edge();
        run();
        image();
        restore();
        count();
        noRace();
        end("all promises are kept");
    }

    private static void newObject() {
        about("promise 1");
        PatentRaces x = new PatentRaces();
        for (int what = 0; what <= 6; what++) {
            int w = what;
            due(0, "told(" + w + ")", () -> x.told(w));
        }
        for (int what = 0; what <= 3; what++) {
            int w = what;
            due(0, "count(" + w + ")", () -> x.count(w));
        }
        thrown(ELEMENT, "shop(0, 0)", () -> x.shop(0, 0));
        due(-1, "fault()", x::fault);
        due(-1, "NONE", () -> PatentRaces.NONE);
    }

    private static void feed() {
        about("promise 2");
        PatentRaces x = new PatentRaces();
        for (int i = 1; i <= 25; i++) {
            due(20 * i, "feed " + i, () -> x.feed(0x20202020, 0x20202020, 0x20202020, 0x20202020, 0x20202020));
        }
        due(-1, "feed 26", () -> x.feed(1, 2, 3, 4, 5));
        due(500, "count(3)", () -> x.count(3));
        due(-6, "race(500) of blanks", () -> x.race(500));
        due(500, "fault()", x::fault);
        due(0, "count(3)", () -> x.count(3));
        due(20, "feed", () -> x.feed(0x73686f70, 0x33706163, 0x65316174, 0x343bff00, -1));
        due(1, "race(14), the highest byte first", () -> x.race(14));
        due(20, "feed", () -> x.feed(0x73686f70, 0x33706163, 0x65316174, 0x343bff00, -1));
        due(-9, "race(15), a byte of 255", () -> x.race(15));
        due(14, "fault()", x::fault);
    }

    private static void race() {
        about("promise 3");
        PatentRaces x = of(RING);
        x.rule(0, 1, 1, 1);
        x.offer(7);
        int n = put(x, "shop 1;prize 10000;");
        thrown(ARGUMENT, "race(-1)", () -> x.race(-1));
        thrown(ARGUMENT, "race(21)", () -> x.race(21));
        due(20, "count(3): it stays", () -> x.count(3));
        due(-8, "race", () -> x.race(n));
        due(0, "count(3): empty", () -> x.count(3));
        due(2, "told(0): the RACE stays", () -> x.told(0));
        due(19, "told(2): the RACE stays", () -> x.told(2));
        due(1, "count(0): the RULES stay", () -> x.count(0));
        due(2, "race", () -> tell(x, "shop 1;shop 2;"));
        due(0, "count(0): all rest", () -> x.count(0));
        due(1, "count(1): the PRIZES stay", () -> x.count(1));
        due(3, "race", () -> tell(x, " shop 1 ; shop 4;shop 01 ;  "));
        due(1, "the first bytes alone", () -> {
            put(x, "shop 1;shop 1;shop 1;");
            return x.race(7);
        });
        due(-9, "a number that n cuts", () -> {
            put(x, "shop 12;shop 1;");
            return x.race(6);
        });
        due(6, "fault()", x::fault);
        due(-9, "a word that n cuts", () -> {
            put(x, "shop 1 pace 1 at 1;");
            return x.race(9);
        });
        due(7, "fault()", x::fault);
        due(-9, "a clause that n cuts", () -> {
            put(x, "shop 1;");
            return x.race(6);
        });
        due(6, "fault()", x::fault);
        due(9, "after a good one the state is that of the new RACE", () -> {
            tell(x, "shop 1 pace 1 at 4;prize 10;weeks 1;");
            return x.worth(1, 1, 1, 0) / 4;
        });
    }

    private static void fault() {
        about("promise 4");
        faulty("", 4, 0);
        faulty("   ", 4, 3);
        faulty("prize 5;  ", 4, 10);
        faulty("prize 5", 1, 7);
        faulty("prize 5  ", 1, 9);
        faulty(";", 1, 0);
        faulty(" ;", 1, 1);
        faulty("shop", 1, 4);
        faulty("shop;", 1, 4);
        faulty("shop 0;", 2, 5);
        faulty("shop 5;", 2, 5);
        faulty("shop  005 ;", 2, 6);
        faulty("shop 99999999999999999999999;", 2, 5);
        faulty("shop 4294967297;", 2, 5);
        faulty("shop one;", 1, 5);
        faulty("Shop 1;", 1, 0);
        faulty("shop1shop;", 1, 5);
        faulty("shops 1;", 1, 0);
        faulty("sho 1;", 1, 0);
        faulty("shop\t1;", 1, 4);
        faulty("shop 1 pace 100 at 1;", 2, 12);
        faulty("shop 1 pace 99 at 5;", 2, 18);
        faulty("shop 1 pace 1 4;", 1, 14);
        faulty("shop 1 pace;", 1, 11);
        faulty("shop 1 pace 1 at 1 pace 1 at 1 pace 1 at 1   pace", 3, 45);
        faulty("shop 1;shop 1;shop 1;  shop", 3, 23);
        faulty("shop 1 shop 2;", 1, 7);
        faulty("prize;", 1, 5);
        faulty("prize 1 second;", 1, 14);
        faulty("prize 1 second 10000;", 2, 15);
        faulty("second 1;", 1, 0);
        faulty("weeks 0;", 2, 6);
        faulty("weeks 7;", 2, 6);
        faulty("week 3;", 1, 0);
        faulty("learn 5 behind 1;", 2, 6);
        faulty("learn 4 behind 0;", 2, 15);
        faulty("learn 4 behind 4;", 2, 15);
        faulty("learn 4;", 1, 7);
        faulty("sell;", 1, 4);
        faulty("sell own;", 1, 8);
        faulty("sell own<;", 1, 9);
        faulty("sell own<=2;", 1, 9);
        faulty("sell own<2<3;", 1, 10);
        faulty("sell own<10000;", 2, 9);
        faulty("sell (own<2);", 1, 9);
        faulty("sell [own];", 1, 9);
        faulty("sell [own<2;", 1, 11);
        faulty("sell (own+1;", 1, 11);
        faulty("sell -1<2;", 1, 5);
        faulty("sell own<2 or;", 1, 13);
        faulty("sell own<2 and or own<1;", 1, 15);
        faulty("sell own<not 2;", 1, 9);
        faulty("sell ownn<2;", 1, 5);
        faulty("sell not not not not not not not own<2;", 3, 29);
        faulty("sell ((((((1))))))<((((((2))))))and[[[[[[(1", 3, 41);
        faulty("sell not[not[not[  not own<2", 3, 19);
        faulty("sell [[[[[[ [ own<2", 3, 12);
        faulty("sell ((((((   (own", 3, 14);
        faulty("sell [not[([(own", 1, 11);
        PatentRaces x = of(ONE);
        due(-1, "fault() after a good one", x::fault);
        tell(x, "shop 1");
        due(6, "fault()", x::fault);
        thrown(ARGUMENT, "race(1)", () -> x.race(1));
        due(6, "fault() after a race() that was none", x::fault);
        // Six open at one time, one behind the other, and a not that has ended.
        due(1, "race", () -> tell(x, "shop 1;sell not own<1 and not own<1 and not[not[((1))<((2))]];"));
        due(-1, "fault()", x::fault);
    }

    private static void told() {
        about("promise 5");
        PatentRaces x = of("shop 1;prize 9 second 8;weeks 1;learn 3 behind 2;prize 7;weeks 6;shop 2;");
        int[] due = {2, 6, 7, 0, 3, 2, 7};
        for (int i = 0; i < due.length; i++) {
            int what = i;
            due(due[i], "told(" + i + ")", () -> x.told(what));
        }
        thrown(ARGUMENT, "told(-1)", () -> x.told(-1));
        thrown(ARGUMENT, "told(7)", () -> x.told(7));
        PatentRaces y = of("shop 1;");
        int[] plain = {1, 4, 0, 0, 0, 0, 1};
        for (int i = 0; i < plain.length; i++) {
            int what = i;
            due(plain[i], "told(" + i + ") of the least text", () -> y.told(what));
        }
        PatentRaces z = of("shop 1;prize 9999 second 9999;learn 0 behind 3;");
        due(9999, "told(2)", () -> z.told(2));
        due(9999, "told(3)", () -> z.told(3));
        due(0, "told(4)", () -> z.told(4));
        due(3, "told(5)", () -> z.told(5));
    }

    private static void shop() {
        about("promise 6");
        PatentRaces x = of("shop 4 pace 99 at 0 pace 0 at 4;shop3pace1at2pace3at4pace5at1;");
        int[][] due = {{4, 2, 99, 0, 0, 0, 4, 0}, {3, 3, 1, 3, 5, 2, 4, 1}};
        for (int s = 0; s < 2; s++) {
            for (int w = 0; w < 8; w++) {
                int shop = s;
                int what = w;
                due(due[s][w], "shop(" + s + ", " + w + ")", () -> x.shop(shop, what));
            }
        }
        thrown(ELEMENT, "shop(2, 0)", () -> x.shop(2, 0));
        thrown(ELEMENT, "shop(-1, 0)", () -> x.shop(-1, 0));
        thrown(ELEMENT, "shop(2, 8)", () -> x.shop(2, 8));
        thrown(ARGUMENT, "shop(1, 8)", () -> x.shop(1, 8));
        thrown(ARGUMENT, "shop(1, -1)", () -> x.shop(1, -1));
    }

    private static void worth() {
        about("promise 7");
        PatentRaces x = of(ONE);
        due(8, "half of 10 less 3", () -> x.worth(1, 1, 1, 0));
        due(48, "(5 + 2/2 - 3) over 16", () -> x.worth(2, 1, 1, 0));
        due(0, "no week is left", () -> x.worth(0, 1, 1, 0));
        due(0, "it has it", () -> x.worth(2, 0, 1, 0));
        due(0, "nobody is IN", () -> x.worth(2, 1, 0, 0));
        thrown(ELEMENT, "worth(9, 9, 9, 1)", () -> x.worth(9, 9, 9, 1));
        thrown(ELEMENT, "worth(2, 1, 1, -1)", () -> x.worth(2, 1, 1, -1));
        thrown(ARGUMENT, "worth(3, 1, 1, 0)", () -> x.worth(3, 1, 1, 0));
        thrown(ARGUMENT, "worth(-1, 1, 1, 0)", () -> x.worth(-1, 1, 1, 0));
        thrown(ARGUMENT, "worth(2, 2, 1, 0)", () -> x.worth(2, 2, 1, 0));
        thrown(ARGUMENT, "worth(2, -1, 1, 0)", () -> x.worth(2, -1, 1, 0));
        thrown(ARGUMENT, "worth(2, 11, 1, 0)", () -> x.worth(2, 11, 1, 0));
        thrown(ARGUMENT, "worth(2, 1001, 1, 0)", () -> x.worth(2, 1001, 1, 0));
        thrown(ARGUMENT, "worth(2, 1, 2, 0)", () -> x.worth(2, 1, 2, 0));
        thrown(ARGUMENT, "worth(2, 1, -1, 0)", () -> x.worth(2, 1, -1, 0));
        PatentRaces ring = of(RING);
        due(3008, "11.75 of 256", () -> ring.worth(2, 21, 3, 0));
        due(640, "2.5 of 256", () -> ring.worth(2, 21, 3, 1));
        due(0, "not IN", () -> ring.worth(2, 21, 1, 1));
        due(0, "OVER: the second has it", () -> ring.worth(2, 1, 3, 0));
        due(4096, "16 of 256: who is not IN may have any STEPS, 0 too", () -> ring.worth(2, 1, 1, 0));
        PatentRaces parts = of("shop 1 pace 0 at 4;shop 1 pace 0 at 4;shop 2;prize 7 second 2;weeks 1;leave 1<0;");
        due(3 * 64, "7 in two whole parts", () -> parts.worth(1, 211, 7, 1));
        due(2 * 64, "the second for the one behind", () -> parts.worth(1, 211, 7, 2));
        due(7 * 64, "all of the 7", () -> parts.worth(1, 210 + 1, 5, 0));
        PatentRaces two = of("shop 1 pace 0 at 4;shop 3;shop 2;prize 7 second 5;weeks 1;leave 1<0;");
        due(0, "the second is for the fewest STEPS", () -> two.worth(1, 231, 7, 1));
        due(2 * 64, "the second in two whole parts", () -> two.worth(1, 221, 7, 1));
        PatentRaces learn = of("shop 1;shop 2 pace 0 at 1;learn 3 behind 1;prize 8;weeks 2;");
        due(512, "a sure step by learning, then a quarter of 8", () -> learn.worth(2, 21, 3, 1));
        due(128, "a sixteenth of 8 with nobody to learn from", () -> learn.worth(2, 21, 2, 1));
        PatentRaces far = of("shop 1;shop 2 pace 0 at 1;learn 3 behind 2;prize 8;weeks 2;");
        due(128, "too near to learn", () -> far.worth(2, 21, 3, 1));
        PatentRaces great = of("shop 1 pace 0 at 4;shop 1;shop 1;prize 9999;weeks 6;");
        due(9999L << 36, "the greatest SCALE", () -> great.worth(6, 111, 7, 0));
    }

    private static void doing() {
        about("promise 8");
        PatentRaces x = of(RING);
        due(1, "doing", () -> x.doing(2, 21, 3, 0));
        due(1, "doing", () -> x.doing(2, 21, 3, 1));
        due(2, "the last week, the other too far", () -> x.doing(1, 21, 3, 0));
        due(0, "it can't come in time", () -> x.doing(1, 21, 3, 1));
        due(0, "not IN", () -> x.doing(2, 21, 1, 1));
        due(0, "OVER", () -> x.doing(2, 20, 3, 1));
        due(0, "OVER", () -> x.doing(0, 21, 3, 0));
        thrown(ELEMENT, "doing", () -> x.doing(2, 21, 3, 2));
        thrown(ARGUMENT, "doing", () -> x.doing(3, 21, 3, 0));
        thrown(ARGUMENT, "doing", () -> x.doing(2, 22, 3, 0));
        thrown(ARGUMENT, "doing", () -> x.doing(2, 21, 4, 0));
        PatentRaces leaving = of(LEAVING);
        due(0, "the first row of those with the greatest sum", () -> leaving.doing(1, 221, 7, 1));
        due(4, "it LEAVES the second to the other", () -> leaving.doing(1, 221, 7, 2));
        // With nothing to win, rest is the first of all rows at rest.
        PatentRaces poor = of("shop 1 pace 0 at 4;shop 1 pace 0 at 4;weeks 1;");
        due(0, "rest comes first", () -> poor.doing(1, 11, 3, 0));
        // A prize of 1 is lost if both come in: of (0, 1) and (1, 0), both at rest, the first.
        PatentRaces one = of("shop 1 pace 0 at 4;shop 1 pace 0 at 4;weeks 1;prize 1;");
        due(0, "SHOP by SHOP", () -> one.doing(1, 11, 3, 0));
        due(1, "SHOP by SHOP", () -> one.doing(1, 11, 3, 1));
        PatentRaces six = of(LEAVING + "weeks 6;leave week = 6;");
        due(0, "leave does not hold in the fifth week", () -> six.doing(5, 221, 7, 2));
        due(4, "leave holds in the sixth week", () -> six.doing(6, 221, 7, 2));
        // By "leave" SHOP 2 may go just if its own STEPS are 1.
        PatentRaces may = of(LEAVING + "leave own = 1 and week = 1 and next = 1;");
        due(0, "leave does not hold", () -> may.doing(1, 221, 7, 2));
        due(4, "leave holds", () -> may.doing(1, 111, 7, 2));
    }

    private static void gain() {
        about("promise 9");
        PatentRaces x = of(RING);
        due(320, "1.25 of 256", () -> x.gain(2, 21, 3));
        due(0, "it IS a REST", () -> x.gain(1, 21, 3));
        due(0, "OVER", () -> x.gain(0, 21, 3));
        due(0, "OVER", () -> x.gain(2, 20, 3));
        thrown(ARGUMENT, "gain(3, 21, 3)", () -> x.gain(3, 21, 3));
        thrown(ARGUMENT, "gain(2, 31, 3)", () -> x.gain(2, 31, 3));
        thrown(ARGUMENT, "gain(2, 121, 3)", () -> x.gain(2, 121, 3));
        thrown(ARGUMENT, "gain(2, 21, 4)", () -> x.gain(2, 21, 4));
    }

    private static void unrest() {
        about("promise 10");
        PatentRaces x = of(RING);
        due(1, "unrest()", x::unrest);
        PatentRaces y = of(RING + "shop 3;");
        due(6, "with any STEPS of a third, IN or not", y::unrest);
        PatentRaces z = of(ONE);
        due(0, "unrest()", z::unrest);
    }

    private static void rule() {
        about("promise 11");
        PatentRaces x = of(ONE);
        due(0, "rule", () -> x.rule(0, 4, 9, 4));
        due(4, "rule", () -> x.rule(0, 4, 9, 3));
        due(0, "rule", () -> x.rule(0, 4, 4, 1));
        due(3, "rule", () -> x.rule(0, 4, 9, 0));
        due(1, "rule", () -> x.rule(0, 4, 4, 1));
        due(0, "rule", () -> x.rule(0, 1, 1, 2));
        thrown(ELEMENT, "rule(1, 0, 0, 0)", () -> x.rule(1, 0, 0, 0));
        thrown(ELEMENT, "rule(-1, 1, 1, 1)", () -> x.rule(-1, 1, 1, 1));
        thrown(ARGUMENT, "rule(0, 0, 1, 1)", () -> x.rule(0, 0, 1, 1));
        thrown(ARGUMENT, "rule(0, 5, 1, 1)", () -> x.rule(0, 5, 1, 1));
        thrown(ARGUMENT, "rule(0, 1, 0, 1)", () -> x.rule(0, 1, 0, 1));
        thrown(ARGUMENT, "rule(0, 1, 5, 1)", () -> x.rule(0, 1, 5, 1));
        thrown(ARGUMENT, "rule(0, 1, 8, 1)", () -> x.rule(0, 1, 8, 1));
        thrown(ARGUMENT, "rule(0, 1, 10, 1)", () -> x.rule(0, 1, 10, 1));
        thrown(ARGUMENT, "rule(0, 1, 1, 5)", () -> x.rule(0, 1, 1, 5));
        thrown(ARGUMENT, "rule(0, 1, 1, -1)", () -> x.rule(0, 1, 1, -1));
        due(2, "count(0)", () -> x.count(0));
        thrown(ELEMENT, "rule without a RACE", () -> new PatentRaces().rule(0, 1, 1, 1));
    }

    private static void follow() {
        about("promise 12");
        PatentRaces x = of(RING);
        x.rule(1, 2, 1, 1);
        x.rule(0, 3, 3, 3);
        due(3, "follow()", x::follow);
        due(1, "rule", () -> x.rule(0, 1, 2, 1));
        due(1, "rule", () -> x.rule(1, 2, 1, 1));
        due(3, "a RULE beyond it stays", () -> x.rule(0, 3, 3, 3));
        due(0, "follow()", x::follow);
        PatentRaces y = of(ONE);
        y.rule(0, 1, 1, 1);
        due(-1, "one SHOP", y::follow);
        due(1, "count(0)", () -> y.count(0));
        PatentRaces z = of(LEAVING);
        due(-1, "three SHOPS", z::follow);
    }

    private static void judged() {
        about("promise 13");
        PatentRaces x = of(RING);
        due(0, "all rest", () -> x.judged(0));
        x.follow();
        due(3008, "judged(0)", () -> x.judged(0));
        due(640, "judged(1)", () -> x.judged(1));
        x.rule(0, 1, 1, 3);
        // The first rests in the last week, as it has no pace 3: 9.5 to it; to the other -3 + (19 - 3)/2.
        due(2432, "a PACE that it has not is rest", () -> x.judged(0));
        due(1280, "a PACE that it has not is rest", () -> x.judged(1));
        x.rule(0, 1, 2, 4);
        // Alone from the second week on, the other has 1 STEP and nobody next: it rests.
        due(-768, "it LEAVES", () -> x.judged(1));
        x.rule(1, 1, 9, 1);
        due((19 - 6) * 256, "next is 9 then", () -> x.judged(1));
        thrown(ELEMENT, "judged(2)", () -> x.judged(2));
        thrown(ELEMENT, "judged(-1)", () -> x.judged(-1));
        PatentRaces y = of(RING + "leave own > 1;");
        y.rule(0, 1, 2, 4);
        y.rule(1, 2, 1, 1);
        y.rule(1, 1, 1, 1);
        due((19 - 6) * 256, "LEAVE where it can't is rest", () -> y.judged(1));
    }

    private static void breaks() {
        about("promise 14");
        PatentRaces x = of(RING);
        x.follow();
        // With two weeks (1, 2): pace 2 for pace 1; with one (1, 2): pace 2, and the other had better rest.
        due(2, "breaks()", x::breaks);
        PatentRaces y = of(ONE);
        due(2, "all rest", y::breaks);
        y.rule(0, 1, 9, 1);
        due(0, "breaks()", y::breaks);
        y.rule(0, 1, 9, 4);
        due(2, "breaks()", y::breaks);
        // Nothing to win, and a pace that costs: LEAVE and rest are better there, the pace breaks.
        PatentRaces z = of("shop 2 pace 1 at 4;weeks 3;");
        z.rule(0, 2, 9, 1);
        due(3, "breaks()", z::breaks);
    }

    private static void alone() {
        about("promise 15");
        PatentRaces x = of("shop 4 pace 1 at 4;shop 2 pace 1 at 2 pace 5 at 4;prize 40;weeks 2;learn 4 behind 1;");
        due(140, "35 of 4", () -> x.alone(1, 1, 1));
        due(584, "36.5 of 16", () -> x.alone(1, 2, 1));
        due(480, "30 of 16", () -> x.alone(1, 2, 2));
        due(0, "alone", () -> x.alone(1, 1, 2));
        due(0, "alone", () -> x.alone(1, 0, 2));
        due(0, "alone", () -> x.alone(1, 2, 0));
        due(0, "alone", () -> x.alone(0, 2, 4));
        thrown(ELEMENT, "alone(2, 9, 9)", () -> x.alone(2, 9, 9));
        thrown(ARGUMENT, "alone(1, 3, 1)", () -> x.alone(1, 3, 1));
        thrown(ARGUMENT, "alone(1, -1, 1)", () -> x.alone(1, -1, 1));
        thrown(ARGUMENT, "alone(1, 2, 3)", () -> x.alone(1, 2, 3));
        thrown(ARGUMENT, "alone(1, 2, -1)", () -> x.alone(1, 2, -1));
    }

    private static void best() {
        about("promise 16");
        PatentRaces x = of("shop 4 pace 1 at 4;shop 2 pace 1 at 2 pace 5 at 4;prize 40;weeks 2;learn 4 behind 1;");
        due(2, "best", () -> x.best(1, 1, 1));
        due(1, "best", () -> x.best(1, 2, 1));
        due(2, "best", () -> x.best(1, 2, 2));
        due(0, "rest comes before LEAVE", () -> x.best(1, 1, 2));
        due(0, "best", () -> x.best(1, 0, 1));
        due(0, "best", () -> x.best(1, 2, 0));
        thrown(ELEMENT, "best(-1, 1, 1)", () -> x.best(-1, 1, 1));
        thrown(ARGUMENT, "best(1, 3, 1)", () -> x.best(1, 3, 1));
        thrown(ARGUMENT, "best(1, 2, 3)", () -> x.best(1, 2, 3));
        PatentRaces y = of("shop 1 pace 2 at 4 pace 2 at 4;prize 9;");
        due(1, "the least of the best, and not a week too early", () -> y.best(0, 1, 1));
        due(0, "a sure step can wait", () -> y.best(0, 4, 1));
    }

    private static void answer() {
        about("promise 17");
        String text = "shop 1 pace 4 at 2;shop 2 pace 0 at 2;prize 16 second 4;weeks 2;";
        PatentRaces x = of(text);
        // The last week it is 7 + 0.5 - 4 = 3.5, whether the other has 1 STEP or 2; so -4 + 8 + 1.75.
        due(1472, "5.75 of 256", () -> x.answer(0, 1));
        due(1536, "6 of 256: the other rests", () -> x.answer(0, 0));
        due(1536, "a PACE that one has not is rest", () -> x.answer(0, 2));
        due(1536, "a PACE that one has not is rest", () -> x.answer(0, 3));
        // 2 by the second in the first week; then 7 or 2, each with a quarter.
        due(1088, "4.25 of 256", () -> x.answer(1, 1));
        thrown(ELEMENT, "answer(2, 9)", () -> x.answer(2, 9));
        thrown(ARGUMENT, "answer(0, 4)", () -> x.answer(0, 4));
        thrown(ARGUMENT, "answer(0, -1)", () -> x.answer(0, -1));
        PatentRaces y = of(text + "learn 4 behind 1;");
        due(1088, "nobody learns", () -> y.answer(1, 1));
        PatentRaces z = of(ONE);
        due(48, "with no others it is ALONE", () -> z.answer(0, 1));
    }

    private static void first() {
        about("promise 18");
        PatentRaces x = of(RING);
        due(192, "1/2 + 1/4 of 256", () -> x.first(0));
        due(128, "1/2 of 256", () -> x.first(1));
        due(0, "NOBODY", () -> x.first(-1));
        thrown(ELEMENT, "first(2)", () -> x.first(2));
        thrown(ELEMENT, "first(-2)", () -> x.first(-2));
        PatentRaces y = of(ONE);
        due(12, "first(0)", () -> y.first(0));
        due(4, "NOBODY", () -> y.first(-1));
        PatentRaces z = of("shop 1;weeks 1;");
        due(4, "NOBODY", () -> z.first(-1));
        due(0, "first(0)", () -> z.first(0));
    }

    private static void late() {
        about("promise 19");
        due(384, "1.5 weeks of 256", () -> of(RING).late());
        due(24, "1.5 weeks of 16", () -> of(ONE).late());
        due(6 * 4096, "all six weeks", () -> of("shop 1;weeks 6;").late());
    }

    private static void waste() {
        about("promise 20");
        due(1152, "3 + 3/2 of 256", () -> of(RING).waste());
        due(72, "3 + 3/2 of 16", () -> of(ONE).waste());
        due(0, "nobody runs", () -> of("shop 1 pace 9 at 4;weeks 6;").waste());
    }

    private static void harder() {
        about("promise 21");
        due(1, "with two weeks the one behind pays 3, the other 0", () -> of(RING).harder());
        due(0, "one SHOP", () -> of(ONE).harder());
        // The second runs if it can come in time: with 2 STEPS to the other's 1 in weeks 3 and 2.
        due(2, "harder()", () -> of("shop 2;shop 2 pace 5 at 3;prize 90;weeks 3;").harder());
    }

    private static void behind() {
        about("promise 22");
        due(2021, "behind()", () -> of(RING).behind());
        due(-1, "behind()", () -> of(ONE).behind());
        due(3021, "most weeks first", () -> of("shop 2;shop 2 pace 5 at 3;prize 90;weeks 3;").behind());
        due(2112, "SHOP 0 is the lowest digit", () -> of("shop 2 pace 5 at 3;shop 2;shop 1;prize 90;weeks 2;").behind());
    }

    private static void leavers() {
        about("promise 23");
        PatentRaces x = of(LEAVING);
        due(2, "where both others have the same", () -> x.leavers(2));
        due(0, "leavers(1)", () -> x.leavers(1));
        due(0, "leavers(0)", () -> x.leavers(0));
        thrown(ELEMENT, "leavers(3)", () -> x.leavers(3));
        thrown(ELEMENT, "leavers(-1)", () -> x.leavers(-1));
        due(0, "leave never holds", () -> of(LEAVING + "leave 1=2;").leavers(2));
    }

    private static void joined() {
        about("promise 24");
        PatentRaces x = of("shop 3 pace 1 at 4 pace 2 at 1;shop 1 pace 2 at 3;shop 1 pace 5 at 4;prize 20;weeks 1;leave 1<0;");
        // SHOPS 0 and 1: 1 STEP, pace 3 at 4, pace 2 at 1; against SHOP 2: both run, 10 each.
        due((10 - 3) * 16, "joined(0, 1)", () -> x.joined(0, 1));
        due((10 - 3) * 16, "joined(1, 0)", () -> x.joined(1, 0));
        // SHOPS 1 and 2: 1 STEP, pace 7 at 4; SHOP 0 can't come in time.
        due((20 - 7) * 16, "joined(1, 2)", () -> x.joined(1, 2));
        due((20 - 7) * 16, "joined(2, 1)", () -> x.joined(2, 1));
        thrown(ARGUMENT, "joined(1, 1)", () -> x.joined(1, 1));
        thrown(ELEMENT, "joined(0, 3)", () -> x.joined(0, 3));
        thrown(ELEMENT, "joined(3, 3)", () -> x.joined(3, 3));
        thrown(ELEMENT, "joined(-1, 0)", () -> x.joined(-1, 0));
        due(3, "the RACE is as it was", () -> x.told(0));
        due(3, "the RACE is as it was", () -> x.shop(0, 0));
        PatentRaces y = of("shop 1 pace 1 at 4;shop 1 pace 1 at 4;prize 10;weeks 1;");
        due(32, "joined(0, 1)", () -> y.joined(0, 1));
        PatentRaces z = of("shop 1;shop 1 pace 1 at 0 pace 1 at 0 pace 2 at 4;prize 10;weeks 1;");
        due(32, "a PACE that one has not", () -> z.joined(0, 1));
    }

    private static void sold() {
        about("promise 25");
        String text = "shop 1 pace 2 at 4;shop 2 pace 1 at 4;prize 12;weeks 1;";
        PatentRaces x = of(text + "sell own<2;");
        // 10 as it is; then they part the prize: 4 and 5.
        due(-16, "9 less 10, of 16", () -> x.sold(0, 1));
        due(-1, "sell does not hold", () -> x.sold(1, 0));
        thrown(ARGUMENT, "sold(0, 0)", () -> x.sold(0, 0));
        thrown(ELEMENT, "sold(0, 2)", () -> x.sold(0, 2));
        thrown(ELEMENT, "sold(2, 2)", () -> x.sold(2, 2));
        thrown(ELEMENT, "sold(-1, 0)", () -> x.sold(-1, 0));
        due(-1, "sell never, if it is not told", () -> of(text).sold(0, 1));
        due(-1, "the buyer has one STEP", () -> of(text + "sell own>0;").sold(1, 0));
        due(-16, "by next and week", () -> of(text + "sell next=2 and week=1;").sold(0, 1));
        due(-1, "the last sell counts", () -> of(text + "sell own<2;sell own>1;").sold(0, 1));
        // 5000 * 9999 * 100 is 4,999,500,000: more than 2 to the power of 32 by 704,532,704.
        due(-16, "values wrap", () -> of(text + "sell 5000*9999*100=704*1000*1000+532*1000+704;").sold(0, 1));
        due(-16, "values wrap below 0", () -> of(text + "sell 5000*9999*50<0;").sold(0, 1));
        due(-16, "a difference from the left", () -> of(text + "sell 5-3-1=1 and 2+3*4=14 and (2+3)*4=20;").sold(0, 1));
        due(-16, "and before or", () -> of(text + "sell own=1 or own=1 and own=2;").sold(0, 1));
        due(-1, "brackets", () -> of(text + "sell [own=1 or own=1] and own=2;").sold(0, 1));
        due(-1, "not before and", () -> of(text + "sell not own=1 and own=2;").sold(0, 1));
        due(-16, "not of a bracket", () -> of(text + "sell not [own=1 and own=2];").sold(0, 1));
    }

    private static void offer() {
        about("promise 26");
        PatentRaces x = new PatentRaces();
        for (int i = 1; i <= 9; i++) {
            int prize = i == 1 ? 0 : 9999;
            due(i, "offer " + i, () -> x.offer(prize));
        }
        due(-1, "offer 10", () -> x.offer(5));
        due(9, "count(1)", () -> x.count(1));
        thrown(ARGUMENT, "offer(-1)", () -> x.offer(-1));
        thrown(ARGUMENT, "offer(10000)", () -> x.offer(10000));
    }

    private static void king() {
        about("promise 27");
        PatentRaces x = of(ONE);
        due(-1, "none was told", () -> x.king(0));
        x.offer(10);
        x.offer(5);
        due(5, "no WASTE", () -> x.king(0));
        due(5, "2 * 9 = 4.5 + 1.5 * 9: the least PRIZE", () -> x.king(9));
        due(10, "2 * 10 > 4.5 + 1.5 * 10", () -> x.king(10));
        due(10, "king(999)", () -> x.king(999));
        thrown(ARGUMENT, "king(-1)", () -> x.king(-1));
        thrown(ARGUMENT, "king(1000)", () -> x.king(1000));
        due(10, "the RACE's own prize stays", () -> x.told(2));
        tell(x, "shop 1;");
        due(5, "by the RACE that is told now", () -> x.king(999));
    }

    private static void entry() {
        about("promise 28");
        PatentRaces x = of("shop 1 pace 1 at 4;shop 1 pace 1 at 4;prize 10;weeks 1;");
        due(2, "entry(4)", () -> x.entry(4));
        due(1, "entry(5)", () -> x.entry(5));
        due(1, "entry(9)", () -> x.entry(9));
        due(0, "entry(10)", () -> x.entry(10));
        thrown(ARGUMENT, "entry(-1)", () -> x.entry(-1));
        thrown(ARGUMENT, "entry(10000)", () -> x.entry(10000));
        due(0, "entry(9999)", () -> x.entry(9999));
        // Alone the first has 16/16; with the second to learn from 4, and that one has 8/4.
        PatentRaces y = of("shop 2 pace 0 at 1;shop 1;learn 3 behind 1;prize 16 second 8;weeks 2;");
        due(2, "two can, though one can't", () -> y.entry(2));
        due(0, "entry(3)", () -> y.entry(3));
    }

    private static void edge() {
        about("promise 29");
        due(7, "half of 7 is more than 3", () -> of("shop 1 pace 3 at 2;prize 5;weeks 2;").edge());
        due(-1, "edge()", () -> of(ONE).edge());
        due(11, "ten above", () -> of("shop 1 pace 5 at 2;prize 1;weeks 1;").edge());
        due(-1, "eleven above", () -> of("shop 1 pace 5 at 2;prize 0;weeks 1;").edge());
        PatentRaces x = of("shop 1 pace 3 at 2;prize 5;weeks 2;");
        x.edge();
        due(5, "the RACE's own prize stays", () -> x.told(2));
        tell(x, ONE);
        due(-1, "by the RACE that is told now", x::edge);
        due(48, "and its WORTH too", () -> x.worth(2, 1, 1, 0));
    }

    private static void run() {
        about("promise 30");
        PatentRaces x = of(ONE);
        // From seed 1 the first two draws are 2 and 2: no step.
        due(2, "run(1, 0)", () -> x.run(1, 0));
        due(0, "run(1, 1)", () -> x.run(1, 1));
        due(6, "run(1, 2)", () -> x.run(1, 2));
        due(1, "run(1, 3)", () -> x.run(1, 3));
        int won = 0;
        for (int seed = -50; seed < 50; seed++) {
            int first = seed * 1103515245 + 12345;
            int second = first * 1103515245 + 12345;
            boolean now = (first >>> 16 & 3) < 2;
            boolean then = (second >>> 16 & 3) < 2;
            int s = seed;
            due(now ? 1 : 2, "run(" + seed + ", 0)", () -> x.run(s, 0));
            due(now || then ? 1 : 0, "run(" + seed + ", 1)", () -> x.run(s, 1));
            due(now ? 3 : 6, "run(" + seed + ", 2)", () -> x.run(s, 2));
            won += now ? 1 : 0;
        }
        check(won > 20 && won < 80, "the seeds are all alike");
        thrown(ARGUMENT, "run(1, -1)", () -> x.run(1, -1));
        thrown(ARGUMENT, "run(1, 4)", () -> x.run(1, 4));
        PatentRaces leaving = of(LEAVING);
        due(1, "who has it", () -> leaving.run(5, 1));
        due(3, "SHOP 2 has left", () -> leaving.run(5, 3));
        PatentRaces both = of("shop 1 pace 1 at 4;shop 1 pace 1 at 4;prize 10;weeks 3;leave 1<0;");
        due(3, "both have it", () -> both.run(0, 1));
    }

    private static void image() {
        about("promise 31");
        PatentRaces x = new PatentRaces();
        due(1, "image()", x::image);
        due(2, "image()", x::image);
        due(3, "image()", x::image);
        due(-1, "image()", x::image);
        due(3, "count(2)", () -> x.count(2));
    }

    private static void restore() {
        about("promise 32");
        PatentRaces x = new PatentRaces();
        due(-1, "restore()", x::restore);
        x.image();
        tell(x, ONE);
        x.rule(0, 1, 9, 1);
        x.offer(5);
        due(48, "judged(0)", () -> x.judged(0));
        x.image();
        tell(x, RING);
        x.offer(6);
        due(3008, "worth", () -> x.worth(2, 21, 3, 0));
        put(x, "shop 1;");
        due(1, "restore()", x::restore);
        due(1, "told(0)", () -> x.told(0));
        due(10, "told(2)", () -> x.told(2));
        due(48, "worth", () -> x.worth(2, 1, 1, 0));
        due(48, "judged(0)", () -> x.judged(0));
        due(1, "count(0)", () -> x.count(0));
        due(1, "count(1)", () -> x.count(1));
        due(20, "the TAPE is none of it", () -> x.count(3));
        due(0, "restore()", x::restore);
        due(0, "told(0)", () -> x.told(0));
        due(0, "count(0)", () -> x.count(0));
        due(0, "count(1)", () -> x.count(1));
        thrown(STATE, "worth", () -> x.worth(2, 1, 1, 0));
        due(-1, "restore()", x::restore);
    }

    private static void count() {
        about("promise 33");
        PatentRaces x = of(ONE);
        x.rule(0, 1, 1, 4);
        x.rule(0, 2, 1, 3);
        x.rule(0, 2, 1, 0);
        x.offer(1);
        x.offer(1);
        x.image();
        x.feed(0, 0, 0, 0, 0);
        due(1, "count(0)", () -> x.count(0));
        due(2, "count(1)", () -> x.count(1));
        due(1, "count(2)", () -> x.count(2));
        due(20, "count(3)", () -> x.count(3));
        due(-1, "count(4)", () -> x.count(4));
        due(-1, "count(-1)", () -> x.count(-1));
    }

    /** IllegalStateException comes before all else that is wrong with a call. */
    private static void noRace() {
        PatentRaces x = new PatentRaces();
        about("promise 7");
        thrown(STATE, "worth", () -> x.worth(-1, -1, -1, -1));
        about("promise 8");
        thrown(STATE, "doing", () -> x.doing(-1, -1, -1, -1));
        about("promise 9");
        thrown(STATE, "gain", () -> x.gain(-1, -1, -1));
        about("promise 10");
        thrown(STATE, "unrest", x::unrest);
        about("promise 12");
        thrown(STATE, "follow", x::follow);
        about("promise 13");
        thrown(STATE, "judged", () -> x.judged(-1));
        about("promise 14");
        thrown(STATE, "breaks", x::breaks);
        about("promise 15");
        thrown(STATE, "alone", () -> x.alone(-1, -1, -1));
        about("promise 16");
        thrown(STATE, "best", () -> x.best(-1, -1, -1));
        about("promise 17");
        thrown(STATE, "answer", () -> x.answer(-1, -1));
        about("promise 18");
        thrown(STATE, "first", () -> x.first(-1));
        about("promise 19");
        thrown(STATE, "late", x::late);
        about("promise 20");
        thrown(STATE, "waste", x::waste);
        about("promise 21");
        thrown(STATE, "harder", x::harder);
        about("promise 22");
        thrown(STATE, "behind", x::behind);
        about("promise 23");
        thrown(STATE, "leavers", () -> x.leavers(-1));
        about("promise 24");
        thrown(STATE, "joined", () -> x.joined(-1, -1));
        about("promise 25");
        thrown(STATE, "sold", () -> x.sold(-1, -1));
        about("promise 27");
        thrown(STATE, "king", () -> x.king(-1));
        about("promise 28");
        thrown(STATE, "entry", () -> x.entry(-1));
        about("promise 29");
        thrown(STATE, "edge", x::edge);
        about("promise 30");
        thrown(STATE, "run", () -> x.run(0, -1));
    }
}
