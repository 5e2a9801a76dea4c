import java.util.ArrayList;
import java.util.List;

/** A call that is refused, or that only asks, leaves all as it was: two objects alike, and one of them is called. */
public final class RefusedTest extends Checks {
    private static final String ONE = "shop 2 pace 3 at 2 pace 5 at 3;prize 30;weeks 4;sell 1=1;";
    private static final String TWO = "shop 2 pace 1 at 2 pace 6 at 4;shop 2 pace 3 at 4;prize 39 second 5;weeks 3;learn 1 behind 1;sell 1=1;";
    private static final String THREE = "shop 1 pace 0 at 3;shop 2 pace 2 at 3;shop 2 pace 1 at 2;prize 30 second 1;weeks 2;leave own>1;sell own=2;";

    /** What an object is made to be before it is called. */
    private enum Made {
        NEW, FAULTY, ONE_SHOP, TWO_SHOPS, THREE_SHOPS, FULL_TAPE, NINE_PRIZES, THREE_IMAGES, RESTORED;

        PatentRaces make() {
            PatentRaces x = new PatentRaces();
            switch (this) {
                case NEW -> { }
                case FAULTY -> tell(x, "shop 5;");
                case ONE_SHOP -> ruled(x, ONE);
                case TWO_SHOPS -> ruled(x, TWO);
                case THREE_SHOPS -> ruled(x, THREE);
                case FULL_TAPE -> {
                    ruled(x, TWO);
                    put(x, ONE + " ".repeat(500 - ONE.length()));
                }
                case NINE_PRIZES -> {
                    ruled(x, TWO);
                    for (int i = 3; i <= 9; i++) {
                        x.offer(10 * i);
                    }
                }
                case THREE_IMAGES -> {
                    x.image();
                    ruled(x, THREE);
                    x.image();
                    ruled(x, TWO);
                    x.image();
                    x.rule(0, 1, 2, 2);
                }
                case RESTORED -> {
                    ruled(x, TWO);
                    x.image();
                    ruled(x, THREE);
                    x.restore();
                }
            }
            return x;
        }

        private static void ruled(PatentRaces x, String text) {
            tell(x, text);
            for (int shop = 0; shop < x.told(0); shop++) {
                x.rule(shop, 1, 1, 1);
                x.rule(shop, 2, 2, 1 + shop);
                x.rule(shop, 2, 1, 4);
                x.rule(shop, 1, 9, 1);
            }
            x.offer(20);
            x.offer(45);
        }
    }

    public static void main(String[] args) {
        for (Made made : Made.values()) {
            refused(made);
            asked(made);
        }
        nothingDone();
        end("what is refused leaves all as it was");
    }

    private static void refused(Made made) {
        about("a refused call leaves all as it was: " + made);
        PatentRaces x = made.make();
        PatentRaces y = made.make();
        List<Question> calls = new ArrayList<>();
        // What is added to n lies beyond the bound; from MOST on it wraps to below 0, and is refused as well.
        for (int n : new int[] {LEAST, -1, 501, 1000, MOST}) {
            calls.add(z -> z.race(n));
            calls.add(z -> z.told(n));
            calls.add(z -> z.shop(0, n));
            calls.add(z -> z.shop(n, 0));
            calls.add(z -> z.worth(n, 0, 0, 0));
            calls.add(z -> z.worth(0, n < 0 ? n : n + 4000, 0, 0));
            calls.add(z -> z.worth(0, 0, n, 0));
            calls.add(z -> z.worth(0, 0, 0, n));
            calls.add(z -> z.doing(n, 0, 0, 0));
            calls.add(z -> z.doing(0, 0, n, 0));
            calls.add(z -> z.doing(0, 0, 0, n));
            calls.add(z -> z.gain(n, 0, 0));
            calls.add(z -> z.gain(0, 0, n));
            calls.add(z -> z.rule(n, 1, 1, 3));
            calls.add(z -> z.rule(0, n, 1, 3));
            calls.add(z -> z.rule(0, 1, n, 3));
            calls.add(z -> z.rule(0, 1, 1, n));
            calls.add(z -> z.judged(n));
            calls.add(z -> z.alone(n, 0, 0));
            calls.add(z -> z.alone(0, n, 0));
            calls.add(z -> z.alone(0, 0, n));
            calls.add(z -> z.best(n, 0, 0));
            calls.add(z -> z.best(0, n, 0));
            calls.add(z -> z.best(0, 0, n));
            calls.add(z -> z.answer(n, 0));
            calls.add(z -> z.answer(0, n));
            calls.add(z -> z.first(n == -1 ? -2 : n));
            calls.add(z -> z.leavers(n));
            calls.add(z -> z.joined(n, 0));
            calls.add(z -> z.joined(0, n));
            calls.add(z -> z.sold(n, 0));
            calls.add(z -> z.sold(0, n));
            calls.add(z -> z.offer(n < 0 ? n : n + 10_000));
            calls.add(z -> z.king(n < 0 ? n : Math.max(n, 1000)));
            calls.add(z -> z.entry(n < 0 ? n : n + 10_000));
            calls.add(z -> z.run(1, n));
        }
        calls.add(z -> z.joined(0, 0));
        calls.add(z -> z.sold(0, 0));
        calls.add(z -> z.rule(0, 1, 6, 1));
        for (int k = 0; k < calls.size(); k++) {
            Question call = calls.get(k);
            String got = answer(() -> call.of(x));
            boolean one = got.equals(STATE.getName()) || got.equals(ARGUMENT.getName()) || got.equals(ELEMENT.getName());
            check(one, "call " + k + " answered " + got);
        }
        alike(x, y);
    }

    private static void asked(Made made) {
        about("a call that asks leaves all as it was: " + made);
        PatentRaces x = made.make();
        PatentRaces y = made.make();
        String once = questions(x);
        check(once.equals(questions(x)), "asked a second time it answers otherwise");
        alike(x, y);
    }

    /** The calls that do nothing, and say so. */
    private static void nothingDone() {
        nothing(Made.FULL_TAPE, "feed", z -> z.feed(1936224112, 540097395, 1752133664, 825979752, 1869619249));
        nothing(Made.NINE_PRIZES, "offer", z -> z.offer(0));
        nothing(Made.THREE_IMAGES, "image", PatentRaces::image);
        nothing(Made.NEW, "restore", PatentRaces::restore);
        nothing(Made.THREE_SHOPS, "restore", PatentRaces::restore);
        nothing(Made.RESTORED, "restore", PatentRaces::restore);
        nothing(Made.ONE_SHOP, "follow", PatentRaces::follow);
        nothing(Made.THREE_SHOPS, "follow", PatentRaces::follow);
    }

    private static void nothing(Made made, String name, Question call) {
        about("doing nothing: " + made);
        PatentRaces x = made.make();
        PatentRaces y = made.make();
        due(-1, name, () -> call.of(x));
        due(-1, name + " again", () -> call.of(x));
        alike(x, y);
    }

    private static void alike(PatentRaces x, PatentRaces y) {
        String one = all(x);
        String other = all(y);
        int at = 0;
        while (at < Math.min(one.length(), other.length()) && one.charAt(at) == other.charAt(at)) {
            at++;
        }
        check(one.equals(other), "it is " + one.substring(Math.max(0, at - 40), Math.min(one.length(), at + 40)) + ", and was "
                + other.substring(Math.max(0, at - 40), Math.min(other.length(), at + 40)));
    }

    /** All that an object answers, and what comes of its TAPE and of its IMAGES. */
    private static String all(PatentRaces x) {
        StringBuilder all = new StringBuilder(questions(x));
        rules(x, all);
        all.append("race ").append(answer(() -> x.race(x.count(3)))).append(' ').append(questions(x));
        for (int i = 0; i < 4; i++) {
            all.append("restore ").append(x.restore()).append(' ').append(questions(x));
            rules(x, all);
        }
        return all.toString();
    }

    private static void rules(PatentRaces x, StringBuilder all) {
        for (int shop = 0; shop < x.told(0); shop++) {
            for (int own = 1; own <= 4; own++) {
                for (int next : new int[] {1, 2, 3, 4, 9}) {
                    int told = x.rule(shop, own, next, 0);
                    x.rule(shop, own, next, told);
                    all.append(told).append(' ');
                }
            }
        }
    }

    private static String questions(PatentRaces x) {
        StringBuilder all = new StringBuilder();
        List<Question> asked = new ArrayList<>(List.of(PatentRaces::fault, PatentRaces::unrest, PatentRaces::breaks, PatentRaces::late,
                PatentRaces::waste, PatentRaces::harder, PatentRaces::behind, PatentRaces::edge, z -> z.first(-1)));
        for (int i = 0; i < 8; i++) {
            int n = i;
            asked.add(z -> z.told(n));
            asked.add(z -> z.count(n));
            asked.add(z -> z.king(n * 20));
            asked.add(z -> z.entry(n * 3));
            asked.add(z -> z.run(n, 2));
            for (int s = 0; s < 3; s++) {
                int shop = s;
                asked.add(z -> z.shop(shop, n));
                asked.add(z -> z.answer(shop, n));
                asked.add(z -> z.joined(shop, n));
                asked.add(z -> z.sold(shop, n));
                asked.add(z -> z.alone(shop, n, 2));
                asked.add(z -> z.best(shop, n, 1));
            }
        }
        for (int s = 0; s < 3; s++) {
            int shop = s;
            asked.add(z -> z.judged(shop));
            asked.add(z -> z.first(shop));
            asked.add(z -> z.leavers(shop));
            for (int state = 0; state < 4 * 223 * 8; state++) {
                int weeks = state / 8 / 223;
                int steps = state / 8 % 223;
                int in = state % 8;
                if (steps % 10 <= 2 && steps / 10 % 10 <= 2) {
                    asked.add(z -> z.worth(weeks, steps, in, shop));
                    asked.add(z -> z.doing(weeks, steps, in, shop));
                    asked.add(z -> z.gain(weeks, steps, in));
                }
            }
        }
        for (Question q : asked) {
            String got = answer(() -> q.of(x));
            all.append(got, got.lastIndexOf('.') + 1, got.length()).append(' ');
        }
        return all.toString();
    }
}
