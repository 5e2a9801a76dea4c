import java.nio.ByteBuffer;
import java.nio.charset.StandardCharsets;
import java.util.Arrays;
import java.util.NoSuchElementException;

/** What the tests share: calls with the answers that are due, and texts that come on the TAPE. */
abstract class Checks {
    interface Call {
        long get();
    }

    interface Question {
        long of(PatentRaces x);
    }

    static final Class<?> STATE = IllegalStateException.class;
    static final Class<?> ARGUMENT = IllegalArgumentException.class;
    static final Class<?> ELEMENT = NoSuchElementException.class;
    static final int LEAST = Integer.MIN_VALUE;
    static final int MOST = Integer.MAX_VALUE;

    private static String sentence = "";
    private static int wrong;

    /** The promise, or the sentence of the document, that the next checks are about. */
    static void about(String words) {
        sentence = words;
    }

    static void check(boolean right, String text) {
        if (!right) {
            wrong++;
            System.out.println(sentence + ": " + text);
        }
    }

    /** What a call answers, or the name of what it throws. */
    static String answer(Call call) {
        try {
            return String.valueOf(call.get());
        } catch (RuntimeException e) {
            return e.getClass().getName();
        }
    }

    static void due(long want, String what, Call call) {
        String got = answer(call);
        check(got.equals(String.valueOf(want)), what + " answered " + got + ", due is " + want);
    }

    static void thrown(Class<?> want, String what, Call call) {
        String got = answer(call);
        check(got.equals(want.getName()), what + " answered " + got + ", due is " + want.getName());
    }

    /** The answer if it may be asked, the exception if not. */
    static void dueOrThrown(boolean stands, long want, Class<?> otherwise, String what, Call call) {
        if (stands) {
            due(want, what, call);
        } else {
            thrown(otherwise, what, call);
        }
    }

    /** Puts a text on the TAPE, with bytes of 0 behind it up to the last twenty. */
    static int put(PatentRaces x, String text) {
        byte[] bytes = text.getBytes(StandardCharsets.ISO_8859_1);
        int feeds = (bytes.length + 19) / 20;
        ByteBuffer buffer = ByteBuffer.wrap(Arrays.copyOf(bytes, feeds * 20));
        for (int i = 0; i < feeds; i++) {
            x.feed(buffer.getInt(), buffer.getInt(), buffer.getInt(), buffer.getInt(), buffer.getInt());
        }
        return bytes.length;
    }

    static int tell(PatentRaces x, String text) {
        return x.race(put(x, text));
    }

    static PatentRaces of(String text) {
        PatentRaces x = new PatentRaces();
        int shops = tell(x, text);
        check(shops > 0, "\"" + text + "\" was read as " + shops + " at " + x.fault());
        return x;
    }

    static void faulty(String text, int kind, int place) {
        PatentRaces x = new PatentRaces();
        due(kind - 10, "race of \"" + text + "\"", () -> tell(x, text));
        due(place, "fault() of \"" + text + "\"", x::fault);
        due(0, "told(0) after \"" + text + "\"", () -> x.told(0));
    }

    static void end(String well) {
        System.out.println(wrong == 0 ? well : wrong + " answers are not as due");
        if (wrong > 0) {
            System.exit(1);
        }
    }
}
