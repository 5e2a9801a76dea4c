import java.nio.charset.StandardCharsets;
import java.util.Arrays;

/**
 * Every cut of a text with everything in it, every sign of it left out, changed or put in, and every two left
 * out: held against Told, which reads by other means.
 */
public final class CutsTest extends Checks {
    private static final String[] TEXTS = {
        " shop 2 pace 3 at 2 pace 9 at 4;shop 3;prize 90 second 8;weeks 5;learn 2 behind 1;"
            + "sell not[own+1<next*2-(week)]or own=2 and next>1;leave own>next; shop 4 pace 0 at 0 ; ",
        "shop1pace1at1pace2at2pace3at3;shop4;sell not not[((((1))))<(2)];weeks6;leave[[[[[[own=0001]]]]]];prize9999second0000;",
        "shop 1;sell((((((own))))))*2-1<3 or[not[not[next>week]]and 1=1];learn 4 behind 3;shop 1;shop 1 pace 99 at 4;"};
    private static final String SIGNS = " ;abhnopst0123459()[]<>=+-*,\t\n\u00e9Z";

    private static int read;

    public static void main(String[] args) {
        about("read by other means");
        for (String text : TEXTS) {
            for (int n = 0; n <= text.length(); n++) {
                same(text.substring(0, n));
                changed(text.substring(0, n), text.substring(Math.min(n + 1, text.length())));
                added(text.substring(0, n), text.substring(n));
            }
        }
        check(read > 10_000, "so few texts: " + read);
        end(read + " texts are read as told");
    }

    private static void changed(String before, String after) {
        same(before + after);
        for (int i = 0; i < SIGNS.length(); i++) {
            same(before + SIGNS.charAt(i) + after);
        }
        for (int i = 0; i < after.length(); i++) {
            same(before + after.substring(0, i) + after.substring(i + 1));
        }
    }

    private static void added(String before, String after) {
        for (int i = 0; i < SIGNS.length(); i++) {
            same(before + SIGNS.charAt(i) + after);
        }
        for (String word : new String[] {"shop", " shop 1;", "pace", "pace 1 at 1", "not ", "own", " next ", "10000", "00", "and", " or ", "((((("}) {
            same(before + word + after);
        }
    }

    private static void same(String text) {
        read++;
        byte[] bytes = text.getBytes(StandardCharsets.ISO_8859_1);
        int[] signs = new int[bytes.length];
        Arrays.setAll(signs, i -> bytes[i] & 255);
        PatentRaces x = new PatentRaces();
        int got = tell(x, text);
        int due;
        int place = -1;
        Told told = null;
        try {
            told = Told.read(signs);
            due = told.shops.size();
        } catch (Told.Fault f) {
            due = f.kind - 10;
            place = f.place;
        }
        check(got == due && x.fault() == place, "race of \"" + text + "\" answered " + got + " at " + x.fault() + ", due is " + due + " at " + place);
        if (told != null && got == due) {
            check(numbers(x).equals(numbers(told)), "of \"" + text + "\" there is told " + numbers(x) + ", due is " + numbers(told));
        }
    }

    private static String numbers(PatentRaces x) {
        StringBuilder all = new StringBuilder();
        for (int what = 1; what <= 6; what++) {
            all.append(x.told(what)).append(' ');
        }
        for (int shop = 0; shop < x.told(0); shop++) {
            int paces = x.shop(shop, 1);
            all.append(x.shop(shop, 0)).append(':');
            for (int p = 0; p < paces; p++) {
                all.append(x.shop(shop, 2 + p)).append('/').append(x.shop(shop, 5 + p)).append(' ');
            }
        }
        return all.toString();
    }

    private static String numbers(Told told) {
        StringBuilder all = new StringBuilder();
        for (int number : new int[] {told.weeks, told.prize, told.second, told.learn, told.behind, told.clauses}) {
            all.append(number).append(' ');
        }
        for (Told.Shop shop : told.shops) {
            all.append(shop.steps()).append(':');
            for (Told.Pace pace : shop.paces()) {
                all.append(pace.cost()).append('/').append(pace.chance()).append(' ');
            }
        }
        return all.toString();
    }
}
