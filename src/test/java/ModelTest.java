import java.nio.ByteBuffer;
import java.util.Arrays;
import java.util.Random;
import java.util.function.Supplier;

/** Runs of calls by seeds, on a new object and on the model: every answer has to be the same. */
public final class ModelTest {
    private static final String[] WORDS = {"shop", "prize", "second", "weeks", "week", "learn", "behind", "sell", "leave",
        "pace", "at", "or", "and", "not", "[", "]", "(", ")", "<", ">", "=", "+", "-", "*", ";", "own", "next", "1", "2", "0",
        "9999", "10000", "5", "99999999999999999999", " ", "  ", "Z", "\t", "shops", "\u00e9"};

    private static final int[] FAR = {Integer.MIN_VALUE, Integer.MIN_VALUE + 1, -65536, -1000, -2, 7, 8, 9, 10, 16, 31, 32, 64, 100, 500, 1000,
        1111, 9999, 10000, 65536, 1 << 30, Integer.MAX_VALUE - 1, Integer.MAX_VALUE};

    private final Random random;
    private final PatentRaces real = new PatentRaces();
    private final Model model = new Model();
    private final StringBuilder log = new StringBuilder();
    private boolean wrong;
    private static long calls;

    private ModelTest(long seed) {
        random = new Random(seed);
    }

    public static void main(String[] args) {
        int runs = args.length > 1 ? Integer.parseInt(args[1]) : 400;
        long from = args.length > 2 ? Long.parseLong(args[2]) : 0;
        int bad = 0;
        for (long seed = from; seed < from + runs && bad < 3; seed++) {
            ModelTest test = new ModelTest(seed);
            test.runAll(seed);
            if (test.wrong) {
                bad++;
                System.out.println("seed " + seed + ":\n" + test.log);
            }
        }
        System.out.println(runs + " runs, " + calls + " calls, " + bad + " of the runs wrong");
        if (bad > 0) {
            System.exit(1);
        }
    }

    private static String ask(Supplier<Object> call) {
        try {
            return String.valueOf(call.get());
        } catch (RuntimeException e) {
            return "throws " + e.getClass().getSimpleName();
        }
    }

    private void same(String call, Supplier<Object> r, Supplier<Object> m) {
        if (wrong) {
            return;
        }
        calls++;
        String got = ask(r);
        String due = ask(m);
        if (due.equals("null")) {
            return;
        }
        log.append("  ").append(call).append(" -> ").append(got).append('\n');
        if (!got.equals(due)) {
            log.append("  due is ").append(due).append('\n');
            wrong = true;
        }
    }

    private int upTo(int most) {
        return random.nextInt(most + 1);
    }

    /** Mostly within the bounds, now and then beside them. */
    private int near(int least, int most) {
        int kind = random.nextInt(60);
        if (kind == 0) {
            return least - 1;
        }
        if (kind == 1) {
            return most + 1;
        }
        if (kind == 2) {
            return FAR[random.nextInt(FAR.length)];
        }
        if (kind == 3) {
            return random.nextInt();
        }
        return least + random.nextInt(most - least + 1);
    }

    private void runAll(long seed) {
        int races = 1 + upTo(3);
        for (int i = 0; i < races; i++) {
            String text = raceText();
            if (random.nextInt(3) == 0) {
                tell(spoil(text));
            }
            if (random.nextInt(4) == 0) {
                tell(noise());
            }
            tell(text);
            if (random.nextInt(3) == 0) {
                sweep();
            }
            int n = 10 + upTo(60);
            for (int k = 0; k < n && !wrong; k++) {
                call();
            }
        }
    }

    private void tell(String text) {
        byte[] bytes = text.getBytes(java.nio.charset.StandardCharsets.ISO_8859_1);
        if (bytes.length > 500) {
            bytes = Arrays.copyOf(bytes, 500);
        }
        // The TAPE has to be empty, or the text would not begin it.
        same("race(0)", () -> real.race(0), () -> model.race(0));
        int feeds = (bytes.length + 19) / 20;
        ByteBuffer buffer = ByteBuffer.wrap(Arrays.copyOf(bytes, feeds * 20));
        for (int i = 0; i < feeds; i++) {
            int[] a = {buffer.getInt(), buffer.getInt(), buffer.getInt(), buffer.getInt(), buffer.getInt()};
            same("feed", () -> real.feed(a[0], a[1], a[2], a[3], a[4]), () -> model.feed(a[0], a[1], a[2], a[3], a[4]));
        }
        int n = bytes.length;
        log.append("  text ").append(text).append('\n');
        same("race(" + n + ")", () -> real.race(n), () -> model.race(n));
        same("fault()", real::fault, model::fault);
        for (int w = 0; w < 7; w++) {
            int what = w;
            same("told(" + w + ")", () -> real.told(what), () -> model.told(what));
        }
        for (int s = 0; s < 3; s++) {
            for (int w = 0; w < 8; w++) {
                int shop = s;
                int what = w;
                same("shop(" + s + ", " + w + ")", () -> real.shop(shop, what), () -> model.shop(shop, what));
            }
        }
    }

    private String blank() {
        return random.nextInt(8) == 0 ? "  " : " ";
    }

    /** Small ones, so that the model can keep up, with costs near what a step is worth. */
    private String raceText() {
        int shops = 1 + random.nextInt(3);
        int weeks = 1 + random.nextInt(shops == 3 ? 3 : 6);
        int cost = 1 + random.nextInt(12);
        StringBuilder text = new StringBuilder();
        for (int i = 0; i < shops; i++) {
            text.append("shop ").append(1 + Math.min(random.nextInt(4), random.nextInt(weeks)));
            int paces = random.nextInt(6) == 0 ? 0 : 1 + random.nextInt(shops == 3 ? 2 : 3);
            for (int p = 0; p < paces; p++) {
                text.append(blank()).append("pace ").append(upTo(cost)).append(" at ").append(upTo(4));
            }
            text.append(';');
        }
        text.append("weeks ").append(weeks).append(';');
        if (random.nextInt(20) > 0) {
            text.append("prize ").append(cost * (1 + upTo(8)) + upTo(3));
            if (random.nextInt(3) == 0) {
                text.append(" second ").append(upTo(random.nextBoolean() ? 2 : 3 * cost));
            }
            text.append(';');
        }
        if (random.nextInt(2) == 0) {
            text.append("learn ").append(upTo(3)).append(" behind ").append(1 + upTo(1)).append(';');
        }
        if (random.nextInt(3) == 0) {
            text.append("leave ").append(condition(0)).append(';');
        }
        if (random.nextInt(4) > 0) {
            text.append("sell ").append(random.nextInt(3) == 0 ? condition(0) : "own<9").append(';');
        }
        return text.toString();
    }

    private String condition(int depth) {
        int kind = depth > 3 ? 5 : random.nextInt(8);
        switch (kind) {
            case 0: return condition(depth + 1) + " or " + condition(depth + 1);
            case 1: return condition(depth + 1) + " and " + condition(depth + 1);
            case 2: return "not " + condition(depth + 1);
            case 3: return "[" + condition(depth + 1) + "]";
            default: return value(depth) + blank() + "<>=".charAt(upTo(2)) + value(depth);
        }
    }

    private String value(int depth) {
        int kind = depth > 3 ? 5 + random.nextInt(4) : random.nextInt(9);
        switch (kind) {
            case 0: return value(depth + 1) + "+" + value(depth + 1);
            case 1: return value(depth + 1) + "-" + value(depth + 1);
            case 2: return value(depth + 1) + "*" + value(depth + 1);
            case 3: return "(" + value(depth + 1) + ")";
            case 4: return String.valueOf(upTo(random.nextBoolean() ? 5 : 9999));
            case 5: return "own";
            case 6: return "next";
            case 7: return "week";
            default: return String.valueOf(upTo(4));
        }
    }

    private String spoil(String text) {
        StringBuilder spoilt = new StringBuilder(text);
        int times = 1 + upTo(1);
        for (int i = 0; i < times; i++) {
            int at = upTo(spoilt.length() - 1);
            int kind = random.nextInt(4);
            if (kind == 0) {
                spoilt.deleteCharAt(at);
            } else if (kind == 1) {
                spoilt.setLength(at + 1);
            } else {
                spoilt.insert(at, WORDS[random.nextInt(WORDS.length)]);
            }
        }
        return spoilt.toString();
    }

    private String noise() {
        StringBuilder text = new StringBuilder(random.nextBoolean() ? "leave " : "");
        int n = upTo(12);
        for (int i = 0; i < n; i++) {
            text.append(WORDS[random.nextInt(WORDS.length)]);
            text.append(random.nextInt(3) == 0 ? "" : " ");
        }
        return text.toString();
    }

    /** Everything about the RACE that has no told RULES in it. */
    private void sweep() {
        int shops = real.told(0);
        int most = 0;
        for (int i = shops - 1; i >= 0; i--) {
            most = most * 10 + real.shop(i, 0);
        }
        for (int w = 0; w <= real.told(1); w++) {
            for (int d = 0; d <= most; d++) {
                for (int in = 0; in < 1 << shops; in++) {
                    sweepState(w, d, in, shops);
                }
            }
        }
        same("unrest()", real::unrest, model::unrest);
        same("harder()", real::harder, model::harder);
        same("behind()", real::behind, model::behind);
        same("edge()", real::edge, model::edge);
        for (int i = 0; i < shops; i++) {
            int s = i;
            same("first(" + s + ")", () -> real.first(s), () -> model.first(s));
            same("leavers(" + s + ")", () -> real.leavers(s), () -> model.leavers(s));
            for (int k = 0; k < 4; k++) {
                int t = k;
                same("answer(" + s + ", " + t + ")", () -> real.answer(s, t), () -> model.answer(s, t));
                same("joined(" + s + ", " + t + ")", () -> real.joined(s, t), () -> model.joined(s, t));
                same("sold(" + s + ", " + t + ")", () -> real.sold(s, t), () -> model.sold(s, t));
            }
        }
    }

    private void sweepState(int w, int d, int in, int shops) {
        String at = "(" + w + ", " + d + ", " + in;
        same("gain" + at + ")", () -> real.gain(w, d, in), () -> model.gain(w, d, in));
        for (int i = 0; i < shops; i++) {
            int s = i;
            same("worth" + at + ", " + s + ")", () -> real.worth(w, d, in, s), () -> model.worth(w, d, in, s));
            same("doing" + at + ", " + s + ")", () -> real.doing(w, d, in, s), () -> model.doing(w, d, in, s));
        }
    }

    private int digits() {
        int shops = Math.max(1, real.told(0));
        if (random.nextInt(40) == 0) {
            return near(0, 555);
        }
        int steps = 0;
        for (int i = shops - 1; i >= 0; i--) {
            int most = real.told(0) == 0 ? 1 : real.shop(i, 0);
            steps = steps * 10 + (random.nextInt(6) == 0 ? 0 : 1 + random.nextInt(most));
        }
        return steps;
    }

    private void call() {
        int shops = Math.max(1, real.told(0));
        int weeks = Math.max(1, real.told(1));
        int s = near(0, shops - 1);
        int t = near(0, shops - 1);
        int w = near(0, weeks);
        int d = digits();
        int in = random.nextBoolean() ? (1 << shops) - 1 : near(0, (1 << shops) - 1);
        int kind = random.nextInt(45);
        switch (kind) {
            case 0, 1, 2, 3 -> same("worth(" + w + ", " + d + ", " + in + ", " + s + ")",
                    () -> real.worth(w, d, in, s), () -> model.worth(w, d, in, s));
            case 4, 5, 6, 7 -> same("doing(" + w + ", " + d + ", " + in + ", " + s + ")",
                    () -> real.doing(w, d, in, s), () -> model.doing(w, d, in, s));
            case 8, 9 -> same("gain(" + w + ", " + d + ", " + in + ")", () -> real.gain(w, d, in), () -> model.gain(w, d, in));
            case 10 -> same("unrest()", real::unrest, model::unrest);
            case 11, 12, 13, 14, 15, 16 -> {
                int own = near(1, 4);
                int next = random.nextInt(4) == 0 ? 9 : near(1, 4);
                int doing = near(0, 4);
                same("rule(" + s + ", " + own + ", " + next + ", " + doing + ")",
                        () -> real.rule(s, own, next, doing), () -> model.rule(s, own, next, doing));
            }
            case 17 -> same("follow()", real::follow, model::follow);
            case 18, 19 -> same("judged(" + s + ")", () -> real.judged(s), () -> model.judged(s));
            case 20, 21 -> same("breaks()", real::breaks, model::breaks);
            case 22 -> {
                int steps = near(0, random.nextInt(3) == 0 ? 4 : 2);
                same("alone(" + s + ", " + w + ", " + steps + ")", () -> real.alone(s, w, steps), () -> model.alone(s, w, steps));
                same("best(" + s + ", " + w + ", " + steps + ")", () -> real.best(s, w, steps), () -> model.best(s, w, steps));
            }
            case 23, 24 -> {
                int doing = near(0, 3);
                same("answer(" + s + ", " + doing + ")", () -> real.answer(s, doing), () -> model.answer(s, doing));
            }
            case 25 -> same("first(" + s + ")", () -> real.first(s), () -> model.first(s));
            case 26 -> same("first(-1)", () -> real.first(-1), () -> model.first(-1));
            case 27 -> same("late()", real::late, model::late);
            case 28 -> same("waste()", real::waste, model::waste);
            case 29 -> same("harder()", real::harder, model::harder);
            case 30 -> same("behind()", real::behind, model::behind);
            case 31 -> same("leavers(" + s + ")", () -> real.leavers(s), () -> model.leavers(s));
            case 32 -> same("joined(" + s + ", " + t + ")", () -> real.joined(s, t), () -> model.joined(s, t));
            case 33, 34 -> same("sold(" + s + ", " + t + ")", () -> real.sold(s, t), () -> model.sold(s, t));
            case 35 -> {
                int prize = near(0, random.nextBoolean() ? 60 : 9999);
                same("offer(" + prize + ")", () -> real.offer(prize), () -> model.offer(prize));
            }
            case 36 -> {
                int coin = near(0, random.nextBoolean() ? 20 : 999);
                same("king(" + coin + ")", () -> real.king(coin), () -> model.king(coin));
            }
            case 37 -> {
                int fee = near(0, random.nextBoolean() ? 10 : 60);
                same("entry(" + fee + ")", () -> real.entry(fee), () -> model.entry(fee));
            }
            case 38 -> same("edge()", real::edge, model::edge);
            case 39, 40 -> {
                int seed = random.nextInt();
                for (int k = -1; k < 5; k++) {
                    int what = k;
                    same("run(" + seed + ", " + k + ")", () -> real.run(seed, what), () -> model.run(seed, what));
                }
            }
            case 41 -> same("image()", real::image, model::image);
            case 42 -> same("restore()", real::restore, model::restore);
            case 43 -> {
                int what = near(0, 3);
                same("count(" + what + ")", () -> real.count(what), () -> model.count(what));
            }
            default -> {
                int n = near(0, 30);
                same("race(" + n + ")", () -> real.race(n), () -> model.race(n));
                same("fault()", real::fault, model::fault);
            }
        }
    }
}
