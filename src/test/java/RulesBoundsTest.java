/** The bounds of RULES, ALONE and ANSWER (==== 3, promises 11 to 17), sentence by sentence. */
public final class RulesBoundsTest extends Checks {
    private static final int[] ASKED = {LEAST, -1, 0, 1, 2, 3, 4, 5, 6, 8, 9, 10, MOST};
    private static final int[] NEXTS = {1, 2, 3, 4, 9};

    public static void main(String[] args) {
        rules();
        cells();
        beyondTheRace();
        nextOfThree();
        leaveWhereItCant();
        paceThatItHasNot();
        followTwo();
        followCells();
        followWeeks();
        judgedShops();
        breaksCounted();
        breaksByMore();
        breaksByLeaving();
        breaksOfSomeOne();
        aloneBounds();
        aloneIsAlone();
        bestOfAll();
        answerBounds();
        answerOthers();
        answerAlone();
        answerUnseen();
        end("RULES, ALONE and ANSWER are as told");
    }

    // ---- RULES ----

    private static void rules() {
        about("by its own STEPS (1 to 4), next being 1 to 4 or 9, DOING (0 to 4)");
        for (int shop : new int[] {LEAST, -1, 0, 1, 2, 3, MOST}) {
            for (int own : ASKED) {
                for (int next : ASKED) {
                    for (int doing : ASKED) {
                        PatentRaces x = shop == 0 ? of("shop 1;") : of("shop 1;shop 2;shop 3;");
                        boolean isShop = shop >= 0 && shop <= 2;
                        boolean stands = own >= 1 && own <= 4 && (next >= 1 && next <= 4 || next == 9) && doing >= 0 && doing <= 4;
                        dueOrThrown(isShop && stands, 0, isShop ? ARGUMENT : ELEMENT, "rule(" + shop + ", " + own + ", " + next + ", "
                                + doing + ")", () -> x.rule(shop, own, next, doing));
                        due(isShop && stands && doing != 0 ? 1 : 0, "count(0)", () -> x.count(0));
                    }
                }
            }
        }
        PatentRaces none = new PatentRaces();
        thrown(ELEMENT, "rule without a RACE", () -> none.rule(0, 1, 1, 1));
        thrown(ELEMENT, "rule without a RACE", () -> none.rule(0, 0, 0, 5));
        PatentRaces one = of("shop 1;");
        thrown(ELEMENT, "rule of SHOP 1", () -> one.rule(1, 1, 1, 1));
        thrown(ELEMENT, "rule of SHOP 2", () -> one.rule(2, 1, 1, 1));
    }

    private static int doingOf(int shop, int own, int next) {
        return (shop * 7 + own * 3 + next) % 4 + 1;
    }

    private static void cells() {
        about("what it was (0 at first: it rests)");
        PatentRaces x = of("shop 1;shop 1;shop 1;");
        int told = 0;
        for (int shop = 0; shop < 3; shop++) {
            for (int own = 1; own <= 4; own++) {
                for (int next : NEXTS) {
                    int s = shop;
                    int o = own;
                    due(0, "at first", () -> x.rule(s, o, next, doingOf(s, o, next)));
                    told++;
                    due(told, "count(0)", () -> x.count(0));
                }
            }
        }
        due(60, "count(0): all of them", () -> x.count(0));
        for (int shop = 0; shop < 3; shop++) {
            for (int own = 1; own <= 4; own++) {
                for (int next : NEXTS) {
                    int s = shop;
                    int o = own;
                    due(doingOf(s, o, next), "what it was", () -> x.rule(s, o, next, doingOf(s, o, next)));
                    due(doingOf(s, o, next), "the same again", () -> x.rule(s, o, next, 0));
                    told--;
                    due(told, "count(0)", () -> x.count(0));
                    due(0, "what it was", () -> x.rule(s, o, next, 0));
                }
            }
        }
    }

    private static void beyondTheRace() {
        about("a RULE for STEPS that the RACE has not");
        PatentRaces x = of("shop 1 pace 1 at 4;prize 9;weeks 1;");
        due(0, "own 4, next 4", () -> x.rule(0, 4, 4, 4));
        due(0, "own 1, next 4", () -> x.rule(0, 1, 4, 1));
        due(2, "count(0)", () -> x.count(0));
        due(0, "it rests: next is 9", () -> x.judged(0));
        x.rule(0, 1, 9, 1);
        due(8 * 4, "9 - 1", () -> x.judged(0));
    }

    private static void nextOfThree() {
        about("next (the fewest that another one has that is IN; 9 if there is none)");
        PatentRaces x = of("shop 2;shop 3;shop 1 pace 0 at 4;prize 8;weeks 1;");
        x.rule(2, 1, 3, 1);
        x.rule(2, 1, 1, 1);
        x.rule(2, 1, 9, 1);
        due(0, "next is not 3, not its own, and not 9", () -> x.judged(2));
        x.rule(2, 1, 2, 1);
        due(8 * 64, "next is 2", () -> x.judged(2));
        // The second LEAVES with 2 weeks left; so next is 4 then, and if that one LEAVES too, 9.
        PatentRaces y = of("shop 3 pace 0 at 4;shop 2;shop 4;prize 8;weeks 3;");
        y.rule(1, 2, 3, 4);
        y.rule(0, 3, 2, 1);
        y.rule(0, 2, 4, 1);
        due(0, "1 to go", () -> y.judged(0));
        y.rule(0, 1, 4, 1);
        due(8L << 18, "sure steps", () -> y.judged(0));
        y.rule(2, 4, 2, 4);
        due(0, "it has not told what it does against nobody", () -> y.judged(0));
        y.rule(0, 2, 9, 1);
        y.rule(0, 1, 9, 1);
        due(8L << 18, "against nobody", () -> y.judged(0));
    }

    private static void leaveWhereItCant() {
        about("LEAVE where it can't leave is rest");
        String text = "shop 1 pace 0 at 4;shop 2;prize 0 second 4;weeks 2;";
        for (String leave : new String[] {"", "leave own=2;", "leave next=1;", "leave week>0;", "leave 1<0;", "leave own<2;", "leave next>1;"}) {
            PatentRaces x = of(text + leave);
            x.rule(0, 1, 2, 1);
            x.rule(0, 1, 9, 1);
            x.rule(1, 2, 1, 4);
            boolean leaves = leave.isEmpty() || leave.equals("leave own=2;") || leave.equals("leave next=1;") || leave.equals("leave week>0;");
            due(leaves ? 0 : 4 * 256, "with \"" + leave + "\"", () -> x.judged(1));
        }
        // By week: rest in the second week of two, and LEAVE in the last.
        PatentRaces x = of("shop 2 pace 0 at 4;shop 2;prize 0 second 4;weeks 2;leave week=1;");
        x.rule(0, 2, 2, 1);
        x.rule(0, 1, 2, 1);
        x.rule(1, 2, 2, 4);
        due(4 * 256, "it can't leave with two weeks left", () -> x.judged(1));
        x.rule(1, 2, 1, 4);
        due(0, "it LEAVES with one week left", () -> x.judged(1));
    }

    private static void paceThatItHasNot() {
        about("a PACE that it has not is rest");
        String[] paces = {"", " pace 1 at 4", " pace 1 at 4 pace 2 at 4", " pace 1 at 4 pace 2 at 4 pace 3 at 4"};
        for (int has = 0; has <= 3; has++) {
            for (int told = 0; told <= 3; told++) {
                PatentRaces x = of("shop 1" + paces[has] + ";prize 9;weeks 1;");
                x.rule(0, 1, 9, told);
                due(told >= 1 && told <= has ? 4 * (9 - told) : 0, "PACE " + told + " of " + has, () -> x.judged(0));
                due(told == 0 ? 0 : 1, "it is told all the same", () -> x.count(0));
            }
        }
    }

    // ---- follow ----

    private static void followTwo() {
        about("-1, doing nothing: there are not two SHOPS");
        String shop = "shop 1 pace 1 at 4;";
        for (String text : new String[] {shop, shop + shop + shop}) {
            PatentRaces x = of(text + "prize 90;weeks 1;");
            x.rule(0, 1, 1, 3);
            x.rule(0, 1, 9, 2);
            due(-1, "follow()", x::follow);
            due(2, "count(0)", () -> x.count(0));
            due(3, "rule", () -> x.rule(0, 1, 1, 3));
            due(2, "rule", () -> x.rule(0, 1, 9, 2));
        }
        PatentRaces two = of(shop + shop + "prize 90;weeks 1;");
        due(2, "follow()", two::follow);
        due(0, "follow() again", two::follow);
        due(2, "count(0)", () -> two.count(0));
    }

    private static void followCells() {
        about("own and next being 1 to what each has at the beginning");
        for (int first = 1; first <= 4; first++) {
            for (int second = 1; second <= 4; second++) {
                PatentRaces x = of("shop " + first + " pace 1 at 3 pace 6 at 4;shop " + second + " pace 3 at 2;prize 40;weeks 4;");
                for (int shop = 0; shop < 2; shop++) {
                    for (int own = 1; own <= 4; own++) {
                        for (int next : NEXTS) {
                            x.rule(shop, own, next, 3);
                        }
                    }
                }
                // None of THE ROWS has a third PACE, so each RULE in reach is changed.
                due(2L * first * second, "follow()", x::follow);
                followed(x, first, second);
            }
        }
    }

    private static void followed(PatentRaces x, int first, int second) {
        for (int own = 1; own <= 4; own++) {
            for (int next : NEXTS) {
                int o = own;
                int of0 = own <= first && next <= second ? x.doing(4, 10 * next + own, 3, 0) : 3;
                int of1 = own <= second && next <= first ? x.doing(4, 10 * own + next, 3, 1) : 3;
                due(of0, "the first with " + own + " to " + next, () -> x.rule(0, o, next, of0));
                due(of1, "the second with " + own + " to " + next, () -> x.rule(1, o, next, of1));
            }
        }
        due(0, "all as they were", x::follow);
    }

    private static void followWeeks() {
        about("THE ROWS of the STATES with all weeks left and both IN");
        // With two weeks left it is (1, 1), with one (2, 0).
        PatentRaces x = of("shop 1 pace 0 at 2 pace 6 at 4;shop 2 pace 3 at 4;prize 19;weeks 2;");
        x.follow();
        due(1, "the first", () -> x.rule(0, 1, 2, 0));
        due(1, "the second", () -> x.rule(1, 2, 1, 0));
        due(2, "what was told over it is changed back", x::follow);
        PatentRaces y = of("shop 1 pace 0 at 2 pace 6 at 4;shop 2 pace 3 at 4;prize 19;weeks 1;");
        y.follow();
        due(2, "the first", () -> y.rule(0, 1, 2, 0));
        due(0, "the second", () -> y.rule(1, 2, 1, 0));
    }

    // ---- judged ----

    private static void judgedShops() {
        about("judged: WORTH of the beginning to a SHOP by RULES");
        String text = "";
        for (int shops = 1; shops <= 3; shops++) {
            text += "shop 1 pace 1 at 4;";
            PatentRaces x = of(text + "prize 60;weeks 1;");
            for (int shop : new int[] {LEAST, -2, -1, 0, 1, 2, 3, MOST}) {
                boolean stands = shop >= 0 && shop < shops;
                dueOrThrown(stands, 0, ELEMENT, "judged(" + shop + ")", () -> x.judged(shop));
            }
            int next = shops == 1 ? 9 : 1;
            for (int shop = 0; shop < shops; shop++) {
                x.rule(shop, 1, next, 1);
            }
            int n = shops;
            due((60L / n - 1) << 2 * n, "all of " + n + " run", () -> x.judged(0));
        }
        PatentRaces far = of("shop 4 pace 0 at 4;prize 9;weeks 3;");
        for (int own = 1; own <= 4; own++) {
            far.rule(0, own, 9, 1);
        }
        due(0, "four STEPS in three weeks", () -> far.judged(0));
    }

    // ---- breaks ----

    private static void breaksCounted() {
        about("STATES (of all weeks and STEPS from 1 to what the RACE begins with, all IN)");
        breaksCounted("");
        // By rest alone it has more, and not by LEAVING.
        breaksCounted("leave 1<0;");
    }

    private static void breaksCounted(String leave) {
        String text = "";
        for (int shops = 1; shops <= 3; shops++) {
            text += "shop 4 pace 1 at 0;";
            for (int weeks = 1; weeks <= 6; weeks++) {
                PatentRaces x = of(text + leave + "weeks " + weeks + ";");
                due(0, "all rest", x::breaks);
                for (int own = 1; own <= 4; own++) {
                    for (int next : NEXTS) {
                        x.rule(shops - 1, own, next, 1);
                    }
                }
                int states = weeks * (shops == 1 ? 4 : shops == 2 ? 16 : 64);
                due(states, "the last pays for nothing in all of them", x::breaks);
                x.rule(shops - 1, 4, shops == 1 ? 9 : 4, 0);
                due(states - weeks, "but with 4 to 4 it rests", x::breaks);
            }
        }
        PatentRaces y = of("shop 3 pace 1 at 0;shop 2;weeks 2;" + leave);
        for (int own = 1; own <= 4; own++) {
            for (int next : NEXTS) {
                y.rule(0, own, next, 1);
            }
        }
        due(2 * 3 * 2, "3 and 2 STEPS, two weeks", y::breaks);
    }

    private static void breaksByMore() {
        about("in which some SHOP alone would have more by another DOING there");
        PatentRaces x = of("shop 1 pace 3 at 2;prize 6;weeks 1;");
        due(0, "as much is not more", x::breaks);
        x.rule(0, 1, 9, 1);
        due(0, "as much is not more", x::breaks);
        PatentRaces y = of("shop 1 pace 3 at 2;prize 7;weeks 1;");
        due(1, "3.5 is more than 3", y::breaks);
        y.rule(0, 1, 9, 1);
        due(0, "3.5 is more than 3", y::breaks);
        PatentRaces z = of("shop 1 pace 3 at 2 pace 2 at 2;prize 7;weeks 1;");
        z.rule(0, 1, 9, 1);
        due(1, "2 is less than 3", z::breaks);
        // Behind it all else is by the RULES: it would rest in the last week, and loses nothing by it.
        PatentRaces w = of("shop 2 pace 1 at 4;prize 9;weeks 2;");
        due(2, "with one STEP it would run; with two that alone leads to nothing", w::breaks);
        w.rule(0, 1, 9, 1);
        due(1, "with two weeks and two STEPS it would run now", w::breaks);
        w.rule(0, 2, 9, 1);
        due(1, "with one week and two STEPS it pays for nothing", w::breaks);
    }

    private static void breaksByLeaving() {
        about("another DOING there: it may LEAVE just if leave holds");
        // The other comes to 1 STEP, and against that the first pays 5 for nothing: it had better be gone.
        String text = "shop 1 pace 5 at 0;shop 2 pace 0 at 4;weeks 2;";
        PatentRaces x = of(text);
        x.rule(0, 1, 1, 1);
        x.rule(1, 2, 1, 1);
        due(3, "(1, 2) with two weeks by LEAVING, (1, 1) by rest", x::breaks);
        PatentRaces y = of(text + "leave next=1;");
        y.rule(0, 1, 1, 1);
        y.rule(1, 2, 1, 1);
        due(2, "it can't leave while the other has 2", y::breaks);
    }

    private static void breaksOfSomeOne() {
        about("some SHOP alone");
        for (int which = 0; which < 3; which++) {
            StringBuilder text = new StringBuilder();
            for (int shop = 0; shop < 3; shop++) {
                text.append(shop == which ? "shop 1 pace 1 at 4;" : "shop 1;");
            }
            PatentRaces x = of(text + "prize 9;weeks 3;");
            due(3, "SHOP " + which + " would run", x::breaks);
            x.rule(which, 1, 1, 1);
            due(0, "by any other DOING there it has no more", x::breaks);
        }
    }

    // ---- ALONE ----

    private static void aloneBounds() {
        about("weeks left and STEPS (0 to those at the beginning)");
        PatentRaces x = of("shop 3;shop 1;weeks 5;");
        for (int shop : new int[] {LEAST, -1, 0, 1, 2, 3, MOST}) {
            for (int weeks : new int[] {LEAST, -1, 0, 1, 4, 5, 6, 7, MOST}) {
                for (int steps : new int[] {LEAST, -1, 0, 1, 2, 3, 4, 5, MOST}) {
                    boolean isShop = shop == 0 || shop == 1;
                    boolean stands = isShop && weeks >= 0 && weeks <= 5 && steps >= 0 && steps <= (shop == 0 ? 3 : 1);
                    String at = "(" + shop + ", " + weeks + ", " + steps + ")";
                    dueOrThrown(stands, 0, isShop ? ARGUMENT : ELEMENT, "alone" + at, () -> x.alone(shop, weeks, steps));
                    dueOrThrown(stands, 0, isShop ? ARGUMENT : ELEMENT, "best" + at, () -> x.best(shop, weeks, steps));
                }
            }
        }
    }

    private static void aloneIsAlone() {
        about("ALONE: a SHOP as if no other one were IN");
        String one = "shop 2 pace 1 at 2;";
        String other = "shop 1 pace 0 at 4;";
        alone(0, one);
        alone(0, one + other);
        alone(1, other + one);
        alone(1, other + one + other);
        alone(2, other + other + one);
    }

    private static void alone(int shop, String shops) {
        PatentRaces x = of(shops + "prize 64 second 32;weeks 3;learn 2 behind 1;");
        due(0, "no STEPS", () -> x.alone(shop, 3, 0));
        due(0, "no weeks", () -> x.alone(shop, 0, 2));
        due(31 * 4, "32 - 1", () -> x.alone(shop, 1, 1));
        due(93 * 8, "31 + 31/2", () -> x.alone(shop, 2, 1));
        due(217 * 16, "31 + 46.5/2", () -> x.alone(shop, 3, 1));
        due(0, "2 STEPS in one week", () -> x.alone(shop, 1, 2));
        due(29 * 8, "-1 + 31/2", () -> x.alone(shop, 2, 2));
        due(59 * 32, "-1 + 46.5/2 + 14.5/2", () -> x.alone(shop, 3, 2));
        x.rule(shop, 1, 9, 4);
        x.rule(shop, 2, 9, 4);
        due(29 * 8, "whatever the RULES are", () -> x.alone(shop, 2, 2));
    }

    private static void bestOfAll() {
        about("least DOING of the best");
        PatentRaces x = of("shop 1 pace 5 at 4 pace 5 at 4 pace 4 at 4;shop 1 pace 5 at 4 pace 5 at 4;shop 1 pace 5 at 4;prize 5;weeks 1;");
        due(3, "4 is less than 5", () -> x.best(0, 1, 1));
        due(0, "rest is as good", () -> x.best(1, 1, 1));
        due(0, "rest is as good", () -> x.best(2, 1, 1));
        due(0, "no weeks", () -> x.best(0, 0, 1));
        due(0, "no STEPS", () -> x.best(0, 1, 0));
        due(4, "5 - 4", () -> x.alone(0, 1, 1));
        PatentRaces y = of("shop 1 pace 5 at 4 pace 5 at 4 pace 4 at 4;prize 6;weeks 2;");
        due(3, "the last week", () -> y.best(0, 1, 1));
        due(0, "it can wait", () -> y.best(0, 2, 1));
        PatentRaces z = of("shop 1 pace 9 at 1;prize 9;weeks 6;leave 1=1;");
        for (int weeks = 0; weeks <= 6; weeks++) {
            int w = weeks;
            due(0, "rest is as good as LEAVE, and less", () -> z.best(0, w, 1));
        }
    }

    // ---- ANSWER ----

    private static void answerBounds() {
        about("if all others do one DOING (0 to 3)");
        PatentRaces x = of("shop 1;shop 2;weeks 6;");
        for (int shop : new int[] {LEAST, -1, 0, 1, 2, 3, MOST}) {
            for (int doing : new int[] {LEAST, -1, 0, 1, 2, 3, 4, 5, MOST}) {
                boolean isShop = shop == 0 || shop == 1;
                dueOrThrown(isShop && doing >= 0 && doing <= 3, 0, isShop ? ARGUMENT : ELEMENT, "answer(" + shop + ", " + doing + ")",
                        () -> x.answer(shop, doing));
            }
        }
    }

    private static void answerOthers() {
        about("all others doing one told DOING each week (a PACE that one has not is rest)");
        PatentRaces x = of("shop 1 pace 1 at 4;shop 1 pace 2 at 4;shop 1 pace 3 at 4 pace 4 at 2;prize 12;weeks 1;");
        due(11 * 64, "all others rest", () -> x.answer(0, 0));
        due(3 * 64, "12 / 3 - 1", () -> x.answer(0, 1));
        due(8 * 64, "a half of 12 and a half of 6, less 1", () -> x.answer(0, 2));
        due(11 * 64, "none has a third PACE", () -> x.answer(0, 3));
        due(10 * 64, "12 - 2", () -> x.answer(1, 0));
        due(2 * 64, "12 / 3 - 2", () -> x.answer(1, 1));
        due(7 * 64, "9 - 2", () -> x.answer(1, 2));
        // Its own PACE is its own best: the second costs 1 more, and has but half the chance.
        due(9 * 64, "12 - 3", () -> x.answer(2, 0));
        due(1 * 64, "12 / 3 - 3", () -> x.answer(2, 1));
        due(9 * 64, "the others have no second PACE", () -> x.answer(2, 2));
        due(9 * 64, "the others have no third PACE", () -> x.answer(2, 3));
        about("prize and second as above");
        int[][] seconds = {{1, 2, 8}, {2, 2, 4}, {3, 2, 0}, {4, 2, 0}, {2, 3, 8}, {3, 3, 4}, {4, 4, 4}, {4, 3, 0}};
        for (int[] s : seconds) {
            PatentRaces behind = of("shop " + s[0] + ";shop 1 pace 0 at 4;shop " + s[1] + ";prize 9 second 8;weeks 1;");
            due(64L * s[2], "the second with " + s[0] + " to " + s[1], () -> behind.answer(0, 1));
            due(0, "the other rests", () -> behind.answer(0, 0));
            PatentRaces last = of("shop " + s[1] + ";shop 1 pace 0 at 4;shop " + s[0] + ";prize 9 second 8;weeks 1;");
            due(64L * s[2], "the second with " + s[0] + " to " + s[1], () -> last.answer(2, 1));
        }
        about("nobody learns, or leaves");
        PatentRaces y = of("shop 1 pace 0 at 4;shop 1;shop 2 pace 0 at 1;learn 3 behind 1;prize 16;weeks 2;");
        due(16 / 16 * 4096, "two quarters", () -> y.answer(2, 0));
        due(0, "the first has it at once", () -> y.answer(2, 1));
        due(16 * 4096, "the last needs two weeks", () -> y.answer(0, 1));
        PatentRaces z = of("shop 1 pace 0 at 4;shop 2;prize 0 second 5;weeks 1;");
        due(5 * 16, "by rest it is IN", () -> z.answer(1, 1));
    }

    private static void answerAlone() {
        about("the best that a SHOP can have: with no others it is ALONE");
        PatentRaces x = of("shop 2 pace 1 at 2 pace 9 at 4;prize 64 second 9;weeks 3;learn 4 behind 1;");
        for (int doing = 0; doing <= 3; doing++) {
            int d = doing;
            due(x.alone(0, 3, 2), "answer(0, " + d + ")", () -> x.answer(0, d));
        }
        PatentRaces y = of("shop 1 pace 3 at 2;prize 5;weeks 6;");
        due(0, "it may rest", () -> y.answer(0, 0));
        PatentRaces four = of("shop 4 pace 1 at 4;shop 4 pace 9 at 4;prize 99;");
        due(95L << 16, "four STEPS", () -> four.answer(0, 0));
        due(63L << 16, "four STEPS of the other one", () -> four.answer(1, 0));
        due(95L << 16, "four STEPS once more", () -> four.answer(0, 0));
        due(45L << 16, "49 - 4", () -> four.answer(0, 1));
        due(13L << 16, "49 - 36", () -> four.answer(1, 1));
        PatentRaces z = of("shop 1 pace 0 at 4;shop 1;shop 1;prize 9999;weeks 6;");
        due(9999L << 36, "the greatest SCALE", () -> z.answer(0, 3));
    }

    private static void answerUnseen() {
        about("sees nobody: its DOING by its own STEPS and the week alone, while the race goes on (no one has it)");
        String other = "shop 2 pace 0 at 2;";
        // In the last week a run is worth 8 - 7 if the other has 2 STEPS, 6 - 7 if it has 1: not seen, it is worth 0.
        PatentRaces x = of("shop 1 pace 7 at 1;" + other + "prize 32;weeks 2;");
        due(256, "8 - 7 in the first week, and no more", () -> x.answer(0, 1));
        due(256 + 3 * 64, "if the other rests, 1 and three quarters of 1", () -> x.answer(0, 0));
        // The other has it in the second week with a quarter: 16 * 3/4 + 8 * 1/4 = 14, less 6 a week.
        PatentRaces y = of("shop 2 pace 6 at 4;" + other + "prize 16;weeks 2;");
        due(2 * 256, "14 - 12", () -> y.answer(0, 1));
        PatentRaces z = of("shop 2 pace 7 at 4;" + other + "prize 16;weeks 2;");
        due(0, "14 - 14", () -> z.answer(0, 1));
        PatentRaces w = of("shop 2 pace 7 at 4;" + other + "prize 16 second 4;weeks 2;");
        due(256, "by rest the second of 4 with a quarter", () -> w.answer(0, 1));
        PatentRaces v = of("shop 2 pace 1 at 4;" + other + "prize 0 second 64;weeks 2;");
        due(16 * 256, "64 / 4 by rest", () -> v.answer(0, 1));
        // Half the time it is over after a week, and nothing more is paid: -6 + (48 - 6) / 2.
        PatentRaces u = of("shop 2 pace 6 at 4;shop 1 pace 0 at 2;prize 64;weeks 2;");
        due(15 * 256, "-6 + 42 / 2", () -> u.answer(0, 1));
    }
}
