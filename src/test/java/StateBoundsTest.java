/** The bounds of STATES, DOINGS, LEARN, the parted prize and THE ROW (==== 2, promises 7 to 10), sentence by sentence. */
public final class StateBoundsTest extends Checks {
    private static final int[] BESIDE = {LEAST, -1000, -1, MOST};

    public static void main(String[] args) {
        weeks();
        steps();
        bits();
        shops();
        over();
        notOver();
        costs();
        chances();
        scale();
        learning();
        learningFromOneThatLeaves();
        learningWithoutRunning();
        prizeParted();
        secondParted();
        secondOfThoseIn();
        leaving();
        leaveWhereItHolds();
        leastGain();
        greatestSum();
        firstRow();
        gainTogether();
        unrest();
        end("the STATES and THE ROWS are as told");
    }

    private static PatentRaces ruled(String text, int[]... rules) {
        PatentRaces x = of(text);
        for (int[] r : rules) {
            x.rule(r[0], r[1], r[2], r[3]);
        }
        return x;
    }

    // ---- which STATES there are ----

    private static void asked(PatentRaces x, boolean stands, int weeks, int steps, int in) {
        String at = "(" + weeks + ", " + steps + ", " + in;
        dueOrThrown(stands, 0, ARGUMENT, "worth" + at + ", 0)", () -> x.worth(weeks, steps, in, 0));
        dueOrThrown(stands, 0, ARGUMENT, "doing" + at + ", 0)", () -> x.doing(weeks, steps, in, 0));
        dueOrThrown(stands, 0, ARGUMENT, "gain" + at + ")", () -> x.gain(weeks, steps, in));
    }

    private static void weeks() {
        about("weeks (0 to the RACE's)");
        for (int most = 1; most <= 6; most++) {
            PatentRaces x = of("shop 2;shop 3;weeks " + most + ";");
            for (int weeks = -2; weeks <= 8; weeks++) {
                asked(x, weeks >= 0 && weeks <= most, weeks, 32, 3);
                asked(x, weeks >= 0 && weeks <= most, weeks, 0, 0);
            }
            for (int weeks : BESIDE) {
                asked(x, false, weeks, 32, 3);
            }
        }
    }

    private static void steps() {
        about("STEPS (each 0 to those at the beginning; digits for the SHOPS that are)");
        PatentRaces one = of("shop 3;");
        PatentRaces two = of("shop 2;shop 4;");
        PatentRaces three = of("shop 4;shop 1;shop 3;");
        for (int steps = -20; steps <= 1300; steps++) {
            boolean whole = steps >= 0;
            asked(one, whole && steps <= 3, 4, steps, 1);
            asked(two, whole && steps < 100 && steps % 10 <= 2 && steps / 10 <= 4, 4, steps, 3);
            asked(three, whole && steps < 1000 && steps % 10 <= 4 && steps / 10 % 10 <= 1 && steps / 100 <= 3, 4, steps, 7);
        }
        for (int steps : new int[] {LEAST, LEAST + 1, -314, 10_000, 1_000_314, 2_000_000_000, MOST}) {
            asked(one, false, 4, steps, 1);
            asked(two, false, 4, steps, 0);
            asked(three, false, 0, steps, 7);
        }
    }

    private static void bits() {
        about("bits");
        String text = "";
        for (int shops = 1; shops <= 3; shops++) {
            text += "shop 2;";
            PatentRaces x = of(text);
            for (int in = -9; in <= 17; in++) {
                asked(x, in >= 0 && in < 1 << shops, 4, 0, in);
                asked(x, in >= 0 && in < 1 << shops, 4, 2, in);
            }
            for (int in : BESIDE) {
                asked(x, false, 4, 2, in);
            }
            asked(x, false, 4, 2, 1 << 30);
        }
    }

    private static void shops() {
        about("no such SHOP");
        String text = "";
        for (int shops = 1; shops <= 3; shops++) {
            text += "shop 2;";
            PatentRaces x = of(text);
            for (int shop = -2; shop <= 4; shop++) {
                int s = shop;
                boolean stands = shop >= 0 && shop < shops;
                dueOrThrown(stands, 0, ELEMENT, "worth to " + s, () -> x.worth(4, 2, 1, s));
                dueOrThrown(stands, 0, ELEMENT, "doing of " + s, () -> x.doing(4, 2, 1, s));
            }
            for (int shop : BESIDE) {
                thrown(ELEMENT, "worth to " + shop, () -> x.worth(4, 2, 1, shop));
                thrown(ELEMENT, "doing of " + shop, () -> x.doing(4, 2, 1, shop));
            }
        }
    }

    private static void nothing(PatentRaces x, int weeks, int steps, int in) {
        String at = "(" + weeks + ", " + steps + ", " + in;
        for (int shop = 0; shop < x.told(0); shop++) {
            int s = shop;
            due(0, "worth" + at + ", " + s + ")", () -> x.worth(weeks, steps, in, s));
            due(0, "doing" + at + ", " + s + ")", () -> x.doing(weeks, steps, in, s));
        }
        due(0, "gain" + at + ")", () -> x.gain(weeks, steps, in));
    }

    private static void over() {
        about("it is OVER, if no week is left, no SHOP is IN, or one that is IN has 0 STEPS");
        PatentRaces x = of("shop 2 pace 0 at 4;shop 2 pace 0 at 4;prize 8 second 4;weeks 3;leave 1<0;");
        for (int steps : new int[] {0, 1, 2, 10, 11, 12, 20, 21, 22}) {
            for (int in = 0; in <= 3; in++) {
                nothing(x, 0, steps, in);
            }
            for (int weeks = 0; weeks <= 3; weeks++) {
                nothing(x, weeks, steps, 0);
            }
        }
        for (int weeks = 1; weeks <= 3; weeks++) {
            nothing(x, weeks, 0, 3);
            nothing(x, weeks, 10, 3);
            nothing(x, weeks, 20, 3);
            nothing(x, weeks, 1, 3);
            nothing(x, weeks, 2, 3);
            nothing(x, weeks, 20, 1);
            nothing(x, weeks, 2, 2);
        }
    }

    private static void notOver() {
        about("one that is not IN may have 0 STEPS, and has WORTH and DOING 0");
        PatentRaces x = of("shop 2 pace 0 at 4;shop 2 pace 0 at 4;prize 8;weeks 3;leave 1<0;");
        for (int other = 0; other <= 2; other++) {
            int its = other;
            due(8 << 12, "the second alone", () -> x.worth(3, 20 + its, 2, 1));
            due(8 << 8, "the second alone", () -> x.worth(2, 20 + its, 2, 1));
            due(0, "a week too few", () -> x.worth(1, 20 + its, 2, 1));
            due(8 << 4, "one STEP in the last week", () -> x.worth(1, 10 + its, 2, 1));
            due(1, "one STEP in the last week", () -> x.doing(1, 10 + its, 2, 1));
            due(0, "not IN", () -> x.worth(3, 20 + its, 2, 0));
            due(0, "not IN", () -> x.doing(1, 10 + its, 2, 0));
            due(8 << 12, "the first alone", () -> x.worth(3, 2 + 10 * its, 1, 0));
            due(0, "not IN", () -> x.worth(3, 2 + 10 * its, 1, 1));
        }
    }

    // ---- what a week brings ----

    private static void costs() {
        about("each that runs pays its COST");
        PatentRaces x = ruled("shop 1 pace 99 at 0 pace 0 at 0 pace 7 at 4;weeks 6;", new int[] {0, 1, 9, 1});
        due(-6 * 99 * 4096L, "it pays every week, and makes no step", () -> x.judged(0));
        x.rule(0, 1, 9, 2);
        due(0, "a PACE that costs nothing", () -> x.judged(0));
        x.rule(0, 1, 9, 3);
        due(-7 * 4096L, "it pays for the step that is made, and is through", () -> x.judged(0));
        x.rule(0, 1, 9, 0);
        due(0, "rest costs nothing", () -> x.judged(0));
        PatentRaces y = ruled("shop 4 pace 99 at 0;shop 4 pace 99 at 0;shop 4 pace 99 at 0;weeks 6;",
                new int[] {0, 4, 4, 1}, new int[] {1, 4, 4, 1}, new int[] {2, 4, 4, 1});
        for (int shop = 0; shop < 3; shop++) {
            int s = shop;
            due(-6 * 99 * (1L << 36), "the least WORTH of all", () -> y.judged(s));
        }
    }

    private static void chances() {
        about("makes a step with its CHANCE (each by itself)");
        for (int chance = 0; chance <= 4; chance++) {
            PatentRaces x = ruled("shop 1 pace 0 at " + chance + ";prize 9999;weeks 1;", new int[] {0, 1, 9, 1});
            due(9999L * chance, "CHANCE " + chance, () -> x.judged(0));
            for (int other = 0; other <= 4; other++) {
                PatentRaces y = ruled("shop 1 pace 0 at " + chance + ";shop 1 pace 0 at " + other + ";prize 8;weeks 1;",
                        new int[] {0, 1, 1, 1}, new int[] {1, 1, 1, 1});
                // Both: half of it; the first alone: all.
                due(4L * chance * other + 8L * chance * (4 - other), "CHANCES " + chance + " and " + other, () -> y.judged(0));
                due(4L * chance * other + 8L * (4 - chance) * other, "CHANCES " + chance + " and " + other, () -> y.judged(1));
            }
        }
    }

    private static void scale() {
        about("a whole number over 4 to the power of (weeks left times the number of SHOPS)");
        String text = "shop 1 pace 0 at 4;";
        for (int shops = 1; shops <= 3; shops++) {
            PatentRaces x = of(text + "prize 9999;weeks 6;leave 1<0;");
            int n = shops;
            for (int weeks = 1; weeks <= 6; weeks++) {
                int w = weeks;
                // One alone is sure of it; those that are not IN are in the SCALE, too.
                due(9999L << 2 * w * n, "with " + w + " weeks of " + n + " SHOPS", () -> x.worth(w, 1, 1, 0));
                due(9999L << 2 * w, "ALONE it is over 4 to the power of the weeks", () -> x.alone(0, w, 1));
            }
            text += "shop 1;";
        }
    }

    private static void learning() {
        about("LEARN: its CHANCE is more (4 of 4 at most), if another one that is IN has fewer STEPS by what is told, or more than that");
        for (int behind = 1; behind <= 3; behind++) {
            for (int learn = 0; learn <= 4; learn++) {
                for (int chance = 0; chance <= 4; chance++) {
                    learning(behind, learn, chance);
                }
            }
        }
    }

    /** The second has to make a step each week; the first has told STEPS and rests. */
    private static void learning(int behind, int learn, int chance) {
        String clause = "learn " + learn + " behind " + behind + ";";
        for (int first = 1; first <= 4; first++) {
            PatentRaces x = of("shop " + first + ";shop 4 pace 0 at " + chance + ";prize 64;weeks 4;leave 1<0;" + clause);
            for (int own = 1; own <= 4; own++) {
                long learned = 64;
                long plain = 64;
                for (int steps = own; steps >= 1; steps--) {
                    learned *= steps - first >= behind ? Math.min(4, chance + learn) : chance;
                    plain *= chance;
                }
                // Each week the chance of the first, who rests, is 4 of 4.
                String what = clause + " with " + own + " to " + first + " at " + chance;
                int weeks = own;
                int digits = 10 * own + first;
                due(learned << 2 * own, what, () -> x.worth(weeks, digits, 3, 1));
                due(plain << 2 * own, what + ", the other not IN", () -> x.worth(weeks, digits, 2, 1));
            }
        }
    }

    private static void learningFromOneThatLeaves() {
        about("another one that is IN (as the week begins)");
        String text = "shop 2 pace 0 at 1;learn 3 behind 1;prize 64;weeks 2;";
        PatentRaces x = ruled("shop 1;" + text, new int[] {0, 1, 2, 4}, new int[] {1, 2, 1, 1}, new int[] {1, 1, 9, 1});
        due(64 / 4 * 256, "a sure step in the week in which the other LEAVES, then a quarter", () -> x.judged(1));
        PatentRaces y = ruled("shop 1;shop 3 pace 0 at 1;learn 3 behind 1;prize 64;weeks 3;",
                new int[] {0, 1, 3, 4}, new int[] {1, 3, 1, 1}, new int[] {1, 2, 9, 1}, new int[] {1, 1, 9, 1});
        due(64 / 16 * 4096, "the week behind it has nobody to learn from", () -> y.judged(1));
        // The first makes its step in the same week, but had 2 as it began.
        PatentRaces z = ruled("shop 2 pace 0 at 4;shop 2 pace 0 at 1;learn 3 behind 1;prize 0 second 64;weeks 2;",
                new int[] {0, 2, 2, 1}, new int[] {1, 2, 2, 1}, new int[] {1, 2, 1, 1}, new int[] {0, 1, 2, 1}, new int[] {0, 1, 1, 1});
        due(64 * 256, "the second prize", () -> z.judged(1));
        due(0, "of all others the fewest count", () -> ruled("shop 3;shop 2;shop 4 pace 0 at 0;learn 4 behind 3;prize 8;weeks 4;",
                new int[] {2, 4, 2, 1}).judged(2));
        due(8L << 24, "one that is far enough ahead will do", () -> ruled("shop 4;shop 1;shop 4 pace 0 at 0 pace 0 at 4;learn 4 behind 3;prize 8;weeks 4;",
                new int[] {2, 4, 1, 1}, new int[] {2, 3, 1, 2}, new int[] {2, 2, 1, 2}, new int[] {2, 1, 1, 2}).judged(2));
    }

    private static void learningWithoutRunning() {
        about("each that runs: one that rests makes no step, however much it learns");
        PatentRaces x = of("shop 1;shop 2;learn 4 behind 1;prize 64;weeks 6;leave 1<0;");
        due(0, "no PACE", () -> x.worth(6, 21, 3, 1));
        PatentRaces y = ruled("shop 1;shop 2 pace 0 at 1;learn 4 behind 1;prize 64;weeks 6;", new int[] {1, 1, 1, 1});
        due(0, "it rests with 2 STEPS", () -> y.judged(1));
    }

    private static void prizeParted() {
        about("the prize is parted among these (whole parts, the rest is nobody's)");
        for (int prize : new int[] {0, 1, 2, 3, 4, 5, 6, 7, 8, 9998, 9999}) {
            for (int running = 1; running <= 7; running++) {
                PatentRaces x = of("shop 1 pace 0 at 4;shop 1 pace 0 at 4;shop 1 pace 0 at 4;weeks 1;prize " + prize + ";");
                for (int shop = 0; shop < 3; shop++) {
                    x.rule(shop, 1, 1, running >> shop & 1);
                }
                for (int shop = 0; shop < 3; shop++) {
                    int s = shop;
                    long part = (running >> shop & 1) == 1 ? prize / Integer.bitCount(running) : 0;
                    due(64 * part, prize + " among the bits " + running, () -> x.judged(s));
                }
            }
        }
    }

    /** The first has it; the others rest with told STEPS, or LEAVE. */
    private static void second(int second, int one, int other, int[] parts, int[]... rules) {
        PatentRaces x = of("shop 1 pace 0 at 4;shop " + one + ";shop " + other + ";weeks 1;prize 0 second " + second + ";");
        x.rule(0, 1, Math.min(one, other), 1);
        for (int[] r : rules) {
            x.rule(r[0], r[1], r[2], r[3]);
        }
        for (int shop = 0; shop < 3; shop++) {
            int s = shop;
            due(64L * parts[shop], second + " for " + one + " and " + other, () -> x.judged(s));
        }
    }

    private static void secondParted() {
        about("the second among those that are IN, have STEPS, and of these the fewest");
        for (int one = 1; one <= 4; one++) {
            for (int other = 1; other <= 4; other++) {
                second(5, one, other, new int[] {0, one < other ? 5 : one > other ? 0 : 2, other < one ? 5 : other > one ? 0 : 2});
            }
        }
        second(1, 2, 2, new int[] {0, 0, 0});
        second(9999, 2, 2, new int[] {0, 4999, 4999});
        second(0, 2, 3, new int[] {0, 0, 0});
        // Two have it: the one behind has all of the second.
        PatentRaces two = of("shop 1 pace 0 at 4;shop 1 pace 0 at 4;shop 4;weeks 1;prize 7 second 5;");
        two.rule(0, 1, 1, 1);
        two.rule(1, 1, 1, 1);
        due(3 * 64, "a part of the prize, and none of the second", () -> two.judged(0));
        due(5 * 64, "all of the second", () -> two.judged(2));
        // All have it: the second is nobody's.
        PatentRaces all = of("shop 1 pace 0 at 4;shop 1 pace 0 at 4;weeks 1;prize 7 second 5;");
        all.rule(0, 1, 1, 1);
        all.rule(1, 1, 1, 1);
        due(3 * 16, "nobody has the second", () -> all.judged(0));
        due(3 * 16, "nobody has the second", () -> all.judged(1));
        // Nobody has it: there is no second then, in the last week too.
        PatentRaces none = of("shop 1 pace 0 at 4;shop 2;weeks 1;prize 7 second 5;");
        due(0, "nobody has it", () -> none.judged(0));
        due(0, "nobody has it", () -> none.judged(1));
        PatentRaces alone = of("shop 1 pace 0 at 4;weeks 1;prize 7 second 5;");
        alone.rule(0, 1, 9, 1);
        due(7 * 4, "no second for the one that has it", () -> alone.judged(0));
        // The STEPS as the week ends: 2 that make a step are as few as 1.
        PatentRaces ends = of("shop 1 pace 0 at 4;shop 2 pace 0 at 4;shop 1;weeks 1;prize 0 second 8;");
        ends.rule(0, 1, 1, 1);
        ends.rule(1, 2, 1, 1);
        due(4 * 64, "both are left with 1", () -> ends.judged(1));
        due(4 * 64, "both are left with 1", () -> ends.judged(2));
    }

    private static void secondOfThoseIn() {
        about("the second among those that are IN: one that LEAVES has none");
        second(5, 2, 3, new int[] {0, 0, 5}, new int[] {1, 2, 1, 4});
        second(5, 2, 2, new int[] {0, 5, 0}, new int[] {2, 2, 1, 4});
        second(5, 3, 2, new int[] {0, 0, 5}, new int[] {1, 3, 1, 4});
        second(5, 3, 2, new int[] {0, 0, 0}, new int[] {1, 3, 1, 4}, new int[] {2, 2, 1, 4});
    }

    private static void leaving() {
        about("4 it LEAVES (it is IN no more, then, and costs nothing)");
        PatentRaces x = ruled("shop 1 pace 99 at 4;shop 1 pace 0 at 4;prize 8;weeks 2;", new int[] {0, 1, 1, 4}, new int[] {1, 1, 9, 1});
        due(0, "one STEP to go, and none made", () -> x.judged(0));
        due(8 * 256, "in the second week the other has all of it", () -> x.judged(1));
        PatentRaces all = ruled("shop 1 pace 0 at 4;shop 1 pace 0 at 4;prize 8;weeks 2;", new int[] {0, 1, 1, 4}, new int[] {1, 1, 1, 4});
        due(0, "all have left", () -> all.judged(0));
        due(0, "all have left", () -> all.judged(1));
        PatentRaces back = ruled("shop 1 pace 0 at 4;shop 2 pace 0 at 4;prize 8;weeks 6;",
                new int[] {0, 1, 2, 4}, new int[] {0, 1, 1, 1}, new int[] {0, 1, 9, 1}, new int[] {1, 2, 9, 1});
        due(0, "one that has left comes back never", () -> back.judged(0));
    }

    private static void leaveWhereItHolds() {
        about("just if leave holds for it there");
        // One of the two that are behind had better LEAVE the second of 1 to the other: the later, by the first row.
        String text = "shop 1 pace 0 at 4;shop 2;shop 2;prize 4 second 1;weeks 1;";
        due(4, "by the one's own STEPS", () -> of(text + "leave own=2;").doing(1, 221, 7, 2));
        due(0, "by the one's own STEPS", () -> of(text + "leave own=1;").doing(1, 221, 7, 2));
        due(4, "by the fewest of another one", () -> of(text + "leave next=1;").doing(1, 221, 7, 2));
        due(0, "by the fewest of another one", () -> of(text + "leave next=2;").doing(1, 221, 7, 2));
        due(4, "next is that of SHOP 0 for it, not its own", () -> of(text + "leave next<own;").doing(1, 221, 7, 2));
        due(0, "one that does not run, and can't leave", () -> of(text + "leave next>own;").doing(1, 221, 7, 2));
        due(64, "the second of 1 is for the one that stays", () -> of(text).worth(1, 221, 7, 1));
        due(0, "none for the one that left", () -> of(text).worth(1, 221, 7, 2));
        due(0, "none if both stay", () -> of(text + "leave 1<0;").worth(1, 221, 7, 1));
        due(0, "SHOP 2 not IN: SHOP 1 need not be left alone", () -> of(text).doing(1, 221, 3, 1));
        due(64, "SHOP 2 not IN", () -> of(text).worth(1, 221, 3, 1));
    }

    // ---- THE ROW ----

    private static void rowIs(PatentRaces x, int weeks, int steps, int in, int... row) {
        for (int shop = 0; shop < row.length; shop++) {
            int s = shop;
            due(row[shop], "doing(" + weeks + ", " + steps + ", " + in + ", " + s + ")", () -> x.doing(weeks, steps, in, s));
        }
    }

    private static void leastGain() {
        about("THE ROW: of all the one of the least GAIN");
        // A ring: against pace 1 the second runs, against that pace 2 is better, then rest, then pace 1.
        PatentRaces x = of("shop 1 pace 0 at 2 pace 6 at 4;shop 2 pace 3 at 4;prize 19;weeks 2;");
        rowIs(x, 2, 21, 3, 1, 1);
        due(320, "1.25 of 256", () -> x.gain(2, 21, 3));
        // One SHOP alone, and nothing to win by any row: all have GAIN 0.
        PatentRaces y = of("shop 1;");
        rowIs(y, 4, 1, 1, 0);
        due(0, "it IS a REST", () -> y.gain(4, 1, 1));
    }

    private static void greatestSum() {
        about("of these the one with the greatest sum of WORTHS");
        // Either may run, but not both: 10 in two parts is less than the cost.
        PatentRaces x = of("shop 1 pace 6 at 4;shop 1 pace 7 at 4;prize 10;weeks 1;");
        rowIs(x, 1, 11, 3, 1, 0);
        due(4 * 16, "10 - 6", () -> x.worth(1, 11, 3, 0));
        PatentRaces y = of("shop 1 pace 7 at 4;shop 1 pace 6 at 4;prize 10;weeks 1;");
        rowIs(y, 1, 11, 3, 0, 1);
        PatentRaces z = of("shop 1 pace 8 at 4;shop 1 pace 6 at 4;shop 1 pace 7 at 4;prize 10;weeks 1;");
        rowIs(z, 1, 111, 7, 0, 1, 0);
        rowIs(z, 1, 111, 5, 0, 0, 1);
        // (1, 1) and (2, 0) have a GAIN of 0.5 each; the first has 1.5 and the second 1, or the first has 6.
        PatentRaces half = of("shop 1 pace 0 at 2 pace 1 at 4;shop 1 pace 4 at 4;prize 7;weeks 2;");
        rowIs(half, 2, 11, 3, 2, 0);
        due(128, "0.5 of 256", () -> half.gain(2, 11, 3));
        due(6 * 256, "7 - 1", () -> half.worth(2, 11, 3, 0));
        // The first runs for the second prize that the other has by it.
        PatentRaces gift = of("shop 1 pace 0 at 4;shop 2;prize 0 second 5;weeks 1;");
        rowIs(gift, 1, 21, 3, 1, 0);
        due(5 * 16, "the sum of all", () -> gift.worth(1, 21, 3, 1));
    }

    private static void firstRow() {
        about("of these the first (SHOP by SHOP, by DOING)");
        PatentRaces x = of("shop 1 pace 6 at 4;shop 1 pace 6 at 4;prize 10;weeks 1;");
        rowIs(x, 1, 11, 3, 0, 1);
        PatentRaces y = of("shop 1 pace 6 at 4;shop 1 pace 6 at 4;shop 1 pace 6 at 4;prize 10;weeks 1;");
        rowIs(y, 1, 111, 7, 0, 0, 1);
        rowIs(y, 1, 111, 3, 0, 1, 0);
        rowIs(y, 1, 111, 5, 0, 0, 1);
        rowIs(y, 1, 111, 6, 0, 0, 1);
        rowIs(y, 1, 111, 1, 1, 0, 0);
        PatentRaces z = of("shop 1 pace 2 at 3 pace 2 at 3 pace 2 at 3;prize 10;weeks 1;");
        rowIs(z, 1, 1, 1, 1);
        PatentRaces w = of("shop 1 pace 4 at 3 pace 2 at 3 pace 2 at 3;prize 10;weeks 1;");
        rowIs(w, 1, 1, 1, 2);
        PatentRaces v = of("shop 1 pace 4 at 3 pace 3 at 3 pace 2 at 3;prize 10;weeks 1;");
        rowIs(v, 1, 1, 1, 3);
        PatentRaces rest = of("shop 1 pace 0 at 4;shop 2;weeks 2;");
        rowIs(rest, 2, 21, 3, 0, 0);
        rowIs(rest, 2, 21, 1, 0, 0);
    }

    private static void gainTogether() {
        about("GAIN of a row: for all SHOPS what each would have more by its best DOING, together");
        // Each row's GAINS, the first's and the second's: (1, 2) has 3 and 0, (2, 2) has 2 and 1.375, all others more.
        PatentRaces x = of("shop 2 pace 3 at 4 pace 2 at 1;shop 1 pace 0 at 2 pace 9 at 4;prize 50;weeks 2;");
        rowIs(x, 2, 12, 3, 1, 2);
        due(3 * 256, "the first would have more by rest", () -> x.gain(2, 12, 3));
        due(-3 * 256, "it pays for nothing", () -> x.worth(2, 12, 3, 0));
        due(41 * 256, "50 - 9", () -> x.worth(2, 12, 3, 1));
        rowIs(x, 1, 11, 3, 1, 2);
        due(22 * 16, "25 - 3", () -> x.worth(1, 11, 3, 0));
        due(16 * 16, "25 - 9", () -> x.worth(1, 11, 3, 1));
        for (int weeks = 0; weeks <= 2; weeks++) {
            int w = weeks;
            due(0, "one alone is always at rest", () -> x.gain(w, 12, 1));
            due(0, "one alone is always at rest", () -> x.gain(w, 12, 2));
        }
    }

    private static void unrest() {
        about("STATES that are not OVER (weeks from 1 on, STEPS from 1 to those at the beginning, all who may be IN)");
        String ring = "shop 1 pace 0 at 2 pace 6 at 4;shop 2 pace 3 at 4;prize 19;";
        for (int weeks = 1; weeks <= 6; weeks++) {
            for (String third : new String[] {"", "shop 1;", "shop 4;", "shop 3 pace 2 at 3;", "shop 2 pace 0 at 2 pace 5 at 3;"}) {
                PatentRaces x = of(ring + third + "weeks " + weeks + ";learn 1 behind 1;");
                PatentRaces y = of(third + ring + "weeks " + weeks + ";");
                due(byGains(x), "unrest() by the GAINS", x::unrest);
                due(byGains(y), "unrest() by the GAINS", y::unrest);
            }
        }
        // In the last week: by rest of the second the third runs (2 > 0), then the second had better run (12.25 > 10),
        // then the third rests (5.25 > 4.75), then the second too (21 > 20.5). (1, 1, 0) has a GAIN of 0.5, and 59.75.
        PatentRaces last = of("shop 1 pace 0 at 4;shop 3 pace 0 at 1 pace 5 at 2;shop 3 pace 8 at 4;prize 39 second 21;weeks 1;");
        rowIs(last, 1, 211, 7, 1, 1, 0);
        due(32, "0.5 of 64", () -> last.gain(1, 211, 7));
        due(34 * 64, "39 * 3/4 + 19 / 4", () -> last.worth(1, 211, 7, 0));
        due(41 * 32, "19 / 4 + 21 * 3/4", () -> last.worth(1, 211, 7, 1));
        due(21 * 16, "21 / 4", () -> last.worth(1, 211, 7, 2));
        due(1, "the last week counts, too", last::unrest);
        due(0, "one SHOP is always at rest", () -> of("shop 4 pace 1 at 3 pace 5 at 4;prize 50;weeks 6;").unrest());
        due(1, "with two weeks, and both IN", () -> of(ring + "weeks 2;").unrest());
        due(1 + 1, "a third with one STEP, IN or not", () -> of(ring + "weeks 2;shop 1;").unrest());
        due(4 + 4, "a third with up to four STEPS, IN or not", () -> of(ring + "weeks 2;shop 4;").unrest());
    }

    private static int byGains(PatentRaces x) {
        int shops = x.told(0);
        int some = 0;
        for (int weeks = 1; weeks <= x.told(1); weeks++) {
            for (int steps = 1; steps < 500; steps++) {
                for (int in = 1; in < 1 << shops && isFull(x, steps); in++) {
                    some += x.gain(weeks, steps, in) != 0 ? 1 : 0;
                }
            }
        }
        return some;
    }

    /** Whether each digit is from 1 to the STEPS at the beginning. */
    private static boolean isFull(PatentRaces x, int steps) {
        int rest = steps;
        for (int shop = 0; shop < x.told(0); shop++) {
            if (rest % 10 < 1 || rest % 10 > x.shop(shop, 0)) {
                return false;
            }
            rest /= 10;
        }
        return rest == 0;
    }
}
