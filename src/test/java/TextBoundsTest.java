import java.math.BigInteger;

/** The bounds of a RACE's text (==== 1, promises 1 to 6), sentence by sentence. */
public final class TextBoundsTest extends Checks {
    /** Three SHOPS, each CLAUSE, each word and each sign. */
    private static final String ALL = " shop 2 pace 3 at 2 pace 9 at 4;shop 3;prize 90 second 8;weeks 5;learn 2 behind 1;"
            + "sell not[own+1<next*2-(week)]or own=2 and next>1;leave own>next; shop 4 pace 0 at 0 ; ";

    public static void main(String[] args) {
        fiveHundredBytes();
        highestByteFirst();
        firstBytes();
        refusedRace();
        numbers();
        digits();
        words();
        blanks();
        otherSigns();
        threeShops();
        threePaces();
        sixOpen();
        notTillItsEnd();
        seventhElsewhere();
        noShop();
        endsTooEarly();
        firstFromTheLeft();
        lastClauseCounts();
        withoutThem();
        relations();
        names();
        wrapping();
        order();
        manyTerms();
        raceStays();
        faultOfTheLatest();
        told();
        shop();
        end("the text is read as told");
    }

    // ---- the TAPE ----

    private static void fiveHundredBytes() {
        about("more than 500");
        String text = " ".repeat(493) + "shop 1;";
        PatentRaces x = new PatentRaces();
        put(x, text);
        due(500, "count(3) of a full TAPE", () -> x.count(3));
        due(-1, "feed", () -> x.feed(0, 0, 0, 0, 0));
        due(-1, "feed once more", () -> x.feed(MOST, LEAST, -1, 1, 0));
        due(500, "count(3): it does nothing", () -> x.count(3));
        thrown(ARGUMENT, "race(501)", () -> x.race(501));
        due(1, "race(500): the text is as it was", () -> x.race(500));
        due(0, "count(3): empty then", () -> x.count(3));
        due(20, "feed on the empty TAPE", () -> x.feed(0, 0, 0, 0, 0));
        PatentRaces y = new PatentRaces();
        put(y, text);
        due(-9, "race(499): the last sign is not of it", () -> y.race(499));
        due(499, "fault()", y::fault);
        PatentRaces z = new PatentRaces();
        for (int i = 1; i <= 25; i++) {
            int fed = 20 * i;
            due(fed, "feed " + i, () -> z.feed(0, 0, 0, 0, 0));
            due(fed, "count(3)", () -> z.count(3));
        }
        due(-9, "race(500) of zeros", () -> z.race(500));
    }

    private static void highestByteFirst() {
        about("of each number the highest first");
        PatentRaces x = new PatentRaces();
        x.feed('s' << 24 | 'h' << 16 | 'o' << 8 | 'p', '1' << 24 | ';' << 16 | 0xff << 8 | 0xfe, -1, LEAST, MOST);
        due(1, "race(6)", () -> x.race(6));
        for (int place = 0; place < 20; place++) {
            // A byte that can't stand there among blanks: its place tells where each number's bytes come.
            int[] five = {0x20202020, 0x20202020, 0x20202020, 0x20202020, 0x20202020};
            five[place / 4] |= 0x80 << 24 - 8 * (place % 4);
            PatentRaces y = new PatentRaces();
            y.feed(five[0], five[1], five[2], five[3], five[4]);
            due(-9, "race(20)", () -> y.race(20));
            due(place, "fault()", y::fault);
        }
    }

    private static void firstBytes() {
        about("the first n bytes of the TAPE (empty then)");
        PatentRaces x = new PatentRaces();
        put(x, "shop 1;shop 2;shop 3;");
        due(2, "race(14)", () -> x.race(14));
        due(0, "count(3)", () -> x.count(3));
        put(x, "shop 1;shop 2;shop 3;");
        due(3, "race(21), up to the zeros", () -> x.race(21));
        put(x, "shop 1;shop 2;shop 3;");
        due(-9, "race(22): one zero too many", () -> x.race(22));
        due(21, "fault()", x::fault);
        due(0, "count(3) after a FAULT", () -> x.count(3));
        put(x, "shop 1;");
        due(-6, "race(0)", () -> x.race(0));
        due(0, "fault()", x::fault);
        due(0, "count(3) after race(0)", () -> x.count(3));
        due(-6, "race(0) of an empty TAPE", () -> x.race(0));
        put(x, "shop 4;");
        due(1, "race(7): nothing is left of a longer text", () -> x.race(7));
        put(x, "prize 5;");
        put(x, "shop 1;");
        due(-9, "race(27): the second begins behind the zeros", () -> x.race(27));
        due(8, "fault()", x::fault);
    }

    private static void refusedRace() {
        about("n is not 0 to the TAPE's bytes (it stays)");
        PatentRaces x = new PatentRaces();
        thrown(ARGUMENT, "race(1) of an empty TAPE", () -> x.race(1));
        thrown(ARGUMENT, "race(-1) of an empty TAPE", () -> x.race(-1));
        put(x, "shop 1;");
        for (int n : new int[] {-1, 21, 500, 501, LEAST, MOST}) {
            thrown(ARGUMENT, "race(" + n + ")", () -> x.race(n));
            due(20, "count(3)", () -> x.count(3));
            due(0, "told(0)", () -> x.told(0));
            due(-1, "fault()", x::fault);
        }
        due(1, "race(7)", () -> x.race(7));
        thrown(ARGUMENT, "race(7) of an empty TAPE", () -> x.race(7));
        due(1, "told(0): the RACE stays", () -> x.told(0));
        put(x, "shop 1;");
        due(-9, "race(20): all of the TAPE", () -> x.race(20));
    }

    // ---- numbers, words, blanks ----

    private static void numbers() {
        number("shop ", ";", 1, 4, x -> x.shop(0, 0));
        number("shop 1 pace ", " at 1;", 0, 99, x -> x.shop(0, 2));
        number("shop 1 pace 5 at ", ";", 0, 4, x -> x.shop(0, 5));
        number("shop 1 pace 5 at 1 pace ", " at 1;", 0, 99, x -> x.shop(0, 3));
        number("shop 1 pace 5 at 1 pace 5 at 1 pace 5 at ", ";", 0, 4, x -> x.shop(0, 7));
        number("shop 1;prize ", ";", 0, 9999, x -> x.told(2));
        number("shop 1;prize ", " second 5;", 0, 9999, x -> x.told(2));
        number("shop 1;prize 5 second ", ";", 0, 9999, x -> x.told(3));
        number("shop 1;weeks ", ";", 1, 6, x -> x.told(1));
        number("shop 1;learn ", " behind 1;", 0, 4, x -> x.told(4));
        number("shop 1;learn 1 behind ", ";", 1, 3, x -> x.told(5));
        number("shop 1;sell ", "<1;", 0, 9999, null);
        number("shop 1;sell own=", ";", 0, 9999, null);
        number("shop 1;leave 1*", "<1;", 0, 9999, null);
        number("shop 1;leave 1>1+", ";", 0, 9999, null);
    }

    /** A number in its place: the last that are taken, and the first that are not, on both sides. */
    private static void number(String before, String after, int least, int most, Question told) {
        about("N (" + least + " to " + most + ") behind \"" + before + "\"");
        for (int n : new int[] {least, most, (least + most) / 2}) {
            for (String zeros : new String[] {"", "0", "0".repeat(40)}) {
                PatentRaces x = of(before + zeros + n + after);
                if (told != null) {
                    due(n, zeros + n, () -> told.of(x));
                }
            }
        }
        BigInteger one = BigInteger.ONE;
        BigInteger[] above = {BigInteger.valueOf(most).add(one), BigInteger.valueOf(most * 10L + 10), one.shiftLeft(31),
            one.shiftLeft(32).add(BigInteger.valueOf(least)), one.shiftLeft(64).add(BigInteger.valueOf(most)), BigInteger.TEN.pow(60)};
        for (BigInteger n : above) {
            faulty(before + n + after, 2, before.length());
            faulty(before + "  0" + n + after, 2, before.length() + 2);
        }
        if (least > 0) {
            faulty(before + (least - 1) + after, 2, before.length());
            faulty(before + "000" + after, 2, before.length());
        }
        for (String none : new String[] {"", "-1", "+1", "x", ".5", "second"}) {
            int blank = none.isEmpty() && after.startsWith(" ") ? 1 : 0;
            faulty(before + none + after, 1, before.length() + blank);
        }
    }

    private static void digits() {
        about("N: digits, as many as stand there");
        faulty("shop 11;", 2, 5);
        faulty("shop 1 1;", 1, 7);
        faulty("weeks 6 0;", 1, 8);
        faulty("prize 9999 9;", 1, 11);
        faulty("prize 99999;", 2, 6);
        faulty("prize 1,000;", 1, 7);
        faulty("prize 1.5;", 1, 7);
        faulty("shop 1 pace 1 0 at 1;", 1, 14);
        faulty("2 shop;", 1, 0);
    }

    private static void words() {
        about("WORDS: small letters, as many as stand there");
        String[] unknown = {"s", "sho", "shops", "shopp", "prizes", "priz", "week", "weekss", "learns", "sells", "leaves", "pace", "at",
            "second", "behind", "own", "next", "not", "or", "and", "a", "z", "Shop", "SHOP", "shOP", "x"};
        for (String word : unknown) {
            faulty(word + " 1;", 1, 0);
            faulty("shop 1; " + word + " 1;", 1, 8);
        }
        faulty("shop 1 paces 1 at 1;", 1, 7);
        faulty("shop 1 pac 1 at 1;", 1, 7);
        faulty("shop 1 pace 1 a 1;", 1, 14);
        faulty("shop 1 pace 1 att 1;", 1, 14);
        faulty("shop 1 pace 1 at 1 at 1;", 1, 19);
        faulty("shop 1 at 1;", 1, 7);
        faulty("prize 1 seconds 2;", 1, 8);
        faulty("prize 1 secon 2;", 1, 8);
        faulty("prize 1 second 1 second 2;", 1, 17);
        faulty("learn 1 behinds 2;", 1, 8);
        faulty("learn 1 second 2;", 1, 8);
        faulty("weeks 1 second 2;", 1, 8);
        for (String word : new String[] {"owns", "ow", "nexts", "nex", "weeks", "wee", "nott", "no", "or", "and", "notown"}) {
            faulty("sell " + word + "<1;", 1, 5);
            faulty("sell 1<" + word + ";", 1, 7);
            faulty("sell 1<1+(" + word + ");", 1, 10);
        }
        faulty("sell 1<not own;", 1, 7);
        faulty("sell own<1 orr own<2;", 1, 11);
        faulty("sell own<1 an own<2;", 1, 11);
        faulty("sell own<1orown<2;", 1, 10);
        faulty("sell own<1 not own<2;", 1, 11);
        faulty("sellown<1;", 1, 0);
        faulty("sell ownown<1;", 1, 5);
        faulty("sell own own<1;", 1, 9);
        faulty("shop 1 shop 1;", 1, 7);
        of("shop1pace1at1pace2at2;prize1second2;weeks3;learn1behind2;sell 1<2or 3<4and 5<6or own<7;");
    }

    private static void blanks() {
        about("blanks (32) may stand ahead of all these, and at the end");
        PatentRaces x = of("  shop  2  pace  3  at  1  ;  prize  7  second  6  ;  weeks  3  ;  learn  4  behind  2  ;"
                + "  sell  not  [  own  *  (  next  +  1  )  -  week  <  0  ]  and  own  =  2  or  1  >  2  ;  leave  1  <  0  ;  shop  1  ;  ");
        int[] due = {2, 3, 7, 6, 4, 2, 7};
        for (int what = 0; what < due.length; what++) {
            int w = what;
            due(due[w], "told(" + w + ")", () -> x.told(w));
        }
        // own 2, next 1, week 3: not 2 * 2 - 3 < 0, and own = 2.
        due(0, "sold(0, 1) can't be: the buyer has one STEP", () -> x.sold(0, 1) + 1);
        due(0, "sold(1, 0): own is 1", () -> x.sold(1, 0) + 1);
        PatentRaces y = of("shop2pace3at1;prize7second6;weeks3;learn4behind2;sell not[own*(next+1)-week<0]and own=2or 1>2;leave 1<0;shop1;");
        for (int what = 0; what < due.length; what++) {
            int w = what;
            due(due[w], "without blanks told(" + w + ")", () -> y.told(w));
        }
        faulty("sh op 1;", 1, 0);
        faulty("shop 1 pa ce 1 at 1;", 1, 7);
        faulty("sell own < = 1;", 1, 11);
        due(1, "at the end", () -> tell(new PatentRaces(), "shop 1;" + " ".repeat(493)));
    }

    private static void otherSigns() {
        about("1 what can't stand there");
        for (int sign = 0; sign < 256; sign++) {
            char c = (char) sign;
            boolean letter = c >= 'a' && c <= 'z';
            if (c != ' ') {
                faulty(c + "shop 1;", 1, 0);
                faulty("shop " + c + "1;", c >= '0' && c <= '9' ? c == '0' ? 0 : 2 : 1, 5, c == '0');
            }
            if (c != ' ' && c != ';') {
                faulty("prize 1" + c + ";", c >= '0' && c <= '9' ? 4 : 1, c >= '0' && c <= '9' ? 9 : 7);
            }
            if (c != ' ' && !(c >= '0' && c <= '9')) {
                faulty("shop" + c + "1;", 1, letter ? 0 : 4);
            }
            boolean relation = c == '<' || c == '>' || c == '=';
            if (c != ' ' && !relation) {
                faulty("sell (own)" + c + "1;", 1, c == '+' || c == '-' || c == '*' ? 12 : 10);
            }
        }
        faulty("shop 1;;", 1, 7);
        faulty(";shop 1;", 1, 0);
        faulty("shop 1,", 1, 6);
        faulty("sell [own]<1;", 1, 9);
        faulty("sell (own<1);", 1, 9);
        faulty("sell (own<1;", 1, 9);
        faulty("sell [own<1);", 1, 11);
        faulty("sell (own];", 1, 9);
        faulty("sell own<1];", 1, 10);
        faulty("sell own<1);", 1, 10);
        faulty("sell ()<1;", 1, 6);
        faulty("sell [];", 1, 6);
        faulty("sell own+<1;", 1, 9);
        faulty("sell own**1<1;", 1, 9);
        faulty("sell own<1<2;", 1, 10);
        faulty("sell own==1;", 1, 9);
        faulty("sell own>=1;", 1, 9);
        faulty("sell own<>1;", 1, 9);
        faulty("sell *own<1;", 1, 5);
        faulty("sell not;", 1, 8);
        faulty("sell own<1 and;", 1, 14);
        faulty("sell own<1 or or own<2;", 1, 14);
        faulty("sell <1;", 1, 5);
        faulty("leave;", 1, 5);
    }

    /** A FAULT, or none of that kind where the text is good. */
    private static void faulty(String text, int kind, int place, boolean good) {
        if (good) {
            due(1, "race of \"" + text + "\"", () -> tell(new PatentRaces(), text));
        } else {
            faulty(text, kind, place);
        }
    }

    // ---- so many and no more ----

    private static void threeShops() {
        about("a 4th SHOP (at its \"shop\")");
        due(1, "one", () -> tell(new PatentRaces(), "shop 1;"));
        due(2, "two", () -> tell(new PatentRaces(), "shop 1;weeks 1;shop 1;"));
        due(3, "three", () -> tell(new PatentRaces(), "shop 1;weeks 1;shop 1;prize 1;shop 4;"));
        faulty("shop 1;shop 1;shop 1;shop 1;", 3, 21);
        faulty("shop 1;shop 1;shop 1;  shop 9;", 3, 23);
        faulty("shop 1;shop 1;weeks 1;shop 1;prize 1; shop;", 3, 38);
        faulty("shop 1;shop 1;shop 1;shop", 3, 21);
        faulty("shop 1;shop 1;shop 1;shops 1;", 1, 21);
        faulty("shop 1;shop 1;shop 1 shop 1;", 1, 21);
        PatentRaces x = new PatentRaces();
        due(3, "three", () -> tell(x, "shop 1;shop 1;shop 1;"));
        due(3, "three more in the next RACE", () -> tell(x, "shop 1;shop 1;shop 1;"));
    }

    private static void threePaces() {
        about("a 4th PACE of one (at its \"pace\")");
        String three = " pace 1 at 1 pace 2 at 2 pace 3 at 3";
        PatentRaces x = of("shop 1" + three + ";shop 2" + three + ";shop 3" + three + ";");
        for (int i = 0; i < 3; i++) {
            int shop = i;
            due(3, "PACES of SHOP " + i, () -> x.shop(shop, 1));
        }
        faulty("shop 1" + three + " pace 4 at 4;", 3, 43);
        faulty("shop 1" + three + "   pace", 3, 45);
        faulty("shop 1" + three + "pace 100 at 9;", 3, 42);
        faulty("shop 1" + three + " paces", 1, 43);
        faulty("shop 1" + three + ";shop 2" + three + " pace 4 at 4;", 3, 86);
        faulty("shop 1" + three + "at 1;", 1, 42);
        // A fault in the third is further left than the fourth.
        faulty("shop 1 pace 1 at 1 pace 2 at 2 pace 3 at 5 pace 4 at 4;", 2, 41);
    }

    private static void sixOpen() {
        about("a 7th of ( [ not that is open at one time");
        of("shop 1;sell ((((((own))))))<((((((own))))));");
        of("shop 1;sell (1)+(1)+(1)+(1)+(1)+(1)+(1)+(1)<(1)*(1)*(1)*(1)*(1)*(1)*(1)*(1);");
        of("shop 1;sell [[[[[[own<1]]]]]]and[[[[[[own<1]]]]]];");
        of("shop 1;sell [1<1]or[1<1]or[1<1]or[1<1]or[1<1]or[1<1]or[1<1]or[1<1];");
        of("shop 1;sell not not not not not not own<1;");
        of("shop 1;sell not[not[((1)+(2))<((1)*(2))]]and not[not[((1))<((2))]];");
        of("shop 1;sell [[[[[(1)<(1)or(1)<(1)]]]]];");
        faulty("sell (((((((own", 3, 11);
        faulty("sell 1<(((((((own", 3, 13);
        faulty("sell [[[[[[[own", 3, 11);
        faulty("sell not not not not not not not own", 3, 29);
        faulty("sell [[[[[[(", 3, 11);
        faulty("sell [[[[[[1<(", 3, 13);
        faulty("sell [[[[[[not", 3, 11);
        faulty("sell [[[[[not[", 3, 13);
        faulty("sell [[[[[not(", 3, 13);
        faulty("sell not not not not not not(", 3, 28);
        faulty("sell not not not not not not[", 3, 28);
        faulty("sell [[[1<(((1)))]]]and[[[1<((((", 3, 31);
        faulty("sell (((1)+(((( (", 3, 16);
        faulty("leave (((((((", 3, 12);
        faulty("leave ((((((1))))))<1;sell ((((((  (", 3, 35);
    }

    private static void notTillItsEnd() {
        about("a not till its B ends");
        of("shop 1;sell not not not not not not 1<1 and not not not not not not 1<1 or not not not not not not 1<1;");
        of("shop 1;sell not not not not not not 1<1 or[[[[[[1<1]]]]]];");
        of("shop 1;sell not 1<1 and((((((1))))))<1;");
        of("shop 1;sell [not 1<1 and(((((1)))))<1];");
        faulty("sell [not 1<1 and ((((((", 3, 23);
        faulty("sell not 1<((((((1))))))and 1<1;", 3, 16);
        faulty("sell not ((((((1))))))<1;", 3, 14);
        of("shop 1;sell not (((((1)))))<(((((1)))));");
        // The not is open till the bracket that it stands before is closed.
        of("shop 1;sell not[[[[[1<1]]]]];");
        faulty("sell not[[[[[[1<1]]]]]];", 3, 13);
        faulty("sell not[1<1 and (((((1)))))<1];", 3, 21);
        of("shop 1;sell not[1<1 and((((1))))<1];");
    }

    private static void seventhElsewhere() {
        about("of one the least");
        faulty("sell ((((((not", 1, 11);
        faulty("sell ((((((1[", 1, 12);
        faulty("sell ((((((1(", 1, 12);
        faulty("sell ((((((1 not", 1, 13);
        faulty("sell [[[[[[1<[", 1, 13);
        faulty("sell [[[[[[1<not", 1, 13);
        faulty("sell [[[[[[1[", 1, 12);
        faulty("sell ((((((1+[", 1, 13);
        // The text ends too early where there is no SHOP, too.
        faulty("prize 5", 1, 7);
        faulty("sell not", 1, 8);
    }

    private static void noShop() {
        about("4 at the length: there is no SHOP");
        faulty("", 4, 0);
        faulty(" ", 4, 1);
        faulty(" ".repeat(500), 4, 500);
        faulty("prize 5;", 4, 8);
        faulty("prize 5;  ", 4, 10);
        faulty("prize 1 second 1;weeks 1;learn 1 behind 1;sell 1<1;leave 1<1;", 4, 61);
        faulty("prize 5;;", 1, 8);
        faulty("prize 5;weeks 7;", 2, 14);
        PatentRaces x = of("shop 1;");
        due(-6, "race: the SHOP of another RACE is none of this one", () -> tell(x, "weeks 1;"));
        due(8, "fault()", x::fault);
    }

    private static void endsTooEarly() {
        about("at the length, if the text ends too early");
        int shops = 0;
        for (int n = 0; n <= ALL.length(); n++) {
            String text = ALL.substring(0, n);
            String kept = text.stripTrailing();
            shops += kept.length() == n && kept.endsWith(";") && startOfClause(kept).startsWith("shop") ? 1 : 0;
            int due = shops;
            if (kept.isEmpty() || kept.endsWith(";")) {
                if (shops == 0) {
                    faulty(text, 4, n);
                } else {
                    due(due, "race of \"" + text + "\"", () -> tell(new PatentRaces(), text));
                }
            } else {
                faulty(text, 1, isPartOfWord(n) ? startOfWord(n) : n);
            }
        }
    }

    private static String startOfClause(String text) {
        return text.substring(text.lastIndexOf(';', text.length() - 2) + 1).strip();
    }

    private static boolean isLetter(int place) {
        return place >= 0 && place < ALL.length() && ALL.charAt(place) >= 'a' && ALL.charAt(place) <= 'z';
    }

    /** Whether what stands ahead of a place is a word that goes on there. */
    private static boolean isPartOfWord(int place) {
        return isLetter(place - 1) && isLetter(place);
    }

    private static int startOfWord(int place) {
        return isLetter(place - 1) ? startOfWord(place - 1) : place;
    }

    private static void firstFromTheLeft() {
        about("FAULTS, the first from the left, at its first byte");
        faulty("shop 0;shop 5;", 2, 5);
        faulty("weeks 7 x;", 2, 6);
        faulty("x weeks 7;", 1, 0);
        faulty("weeks x 7;", 1, 6);
        faulty("shop 9;shop 1;shop 1;shop 1;", 2, 5);
        faulty("shop 1;shop 1;shop 1;shop 1;weeks 7;", 3, 21);
        faulty("prize 10000 second 10000", 2, 6);
        faulty("prize 1 second 10000", 2, 15);
        faulty("learn 5 behind 4", 2, 6);
        faulty("learn 5 4", 2, 6);
        faulty("shop 1 pace 100 at 5;", 2, 12);
        faulty("shop 1 pace 99 at 5", 2, 18);
        faulty("sell 10000<10000;", 2, 5);
        faulty("sell 9999<10000", 2, 10);
        faulty("sell own<1;  xyz", 1, 13);
    }

    private static void lastClauseCounts() {
        about("of prize, weeks, learn, sell and leave the last CLAUSE counts");
        PatentRaces x = of("prize 1 second 2;weeks 1;learn 1 behind 1;shop 2;prize 3 second 4;weeks 2;shop 2;learn 2 behind 2;");
        int[] due = {2, 2, 3, 4, 2, 2, 8};
        for (int what = 0; what < due.length; what++) {
            int w = what;
            due(due[w], "told(" + w + ")", () -> x.told(w));
        }
        due(0, "the last prize has no second", () -> of("shop 1;prize 5 second 4;prize 6;").told(3));
        due(6, "the last prize", () -> of("shop 1;prize 5 second 4;prize 6;").told(2));
        due(0, "the last prize is 0", () -> of("shop 1;prize 5 second 4;prize 0;").told(2));
        due(-1, "the last sell does not hold", () -> of("shop 2;shop 2;sell 1=1;sell 1=2;").sold(0, 1));
        due(0, "the last sell holds", () -> of("shop 2;shop 2;sell 1=2;sell 1=1;").sold(0, 1));
        due(0, "sell is not leave", () -> of("shop 2;shop 2;sell 1=1;leave 1=2;").sold(0, 1));
        due(-1, "leave is not sell", () -> of("shop 2;shop 2;leave 1=1;").sold(0, 1));
        due(0, "sell behind leave", () -> of("shop 2;shop 2;leave 1=2;sell 1=1;").sold(0, 1));
        due(-1, "sell behind leave", () -> of("shop 2;shop 2;leave 1=1;sell 1=2;").sold(0, 1));
        String leaving = "shop 1 pace 0 at 4;shop 2;shop 2;prize 4 second 1;weeks 1;";
        due(0, "the last leave does not hold", () -> of(leaving + "leave 1=1;leave 1=2;").doing(1, 221, 7, 2));
        due(4, "sell behind leave", () -> of(leaving + "leave 1=1;sell 1=2;").doing(1, 221, 7, 2));
        due(0, "sell behind leave", () -> of(leaving + "leave 1=2;sell 1=1;").doing(1, 221, 7, 2));
        due(4, "sell ahead of leave", () -> of(leaving + "sell 1=2;leave 1=1;").doing(1, 221, 7, 2));
        due(4, "the last leave holds", () -> of(leaving + "leave 1=2;leave 1=1;").doing(1, 221, 7, 2));
        due(4, "weeks and prize are 1 and 4", () -> of("weeks 6;prize 0;" + leaving).doing(1, 221, 7, 2));
        PatentRaces y = of("shop 2;shop 2;sell 1=1;");
        tell(y, "shop 2;shop 2;");
        due(-1, "sell of another RACE is none of this one", () -> y.sold(0, 1));
        PatentRaces z = of(leaving + "leave 1=2;");
        tell(z, leaving);
        due(4, "leave of another RACE is none of this one", () -> z.doing(1, 221, 7, 2));
    }

    private static void withoutThem() {
        about("without them: prize 0, second 0, 4 weeks, no learning; sell never, leave always");
        PatentRaces x = of("shop 4 pace 7 at 3;");
        int[] due = {1, 4, 0, 0, 0, 0, 1};
        for (int what = 0; what < due.length; what++) {
            int w = what;
            due(due[w], "told(" + w + ")", () -> x.told(w));
        }
        PatentRaces y = of("prize 9 second 8;weeks 6;learn 3 behind 2;shop 1;");
        tell(y, "shop 1;");
        for (int what = 0; what < due.length; what++) {
            int w = what;
            due(due[w], "after another RACE told(" + w + ")", () -> y.told(w));
        }
        due(-1, "sell never", () -> of("shop 2;shop 2;").sold(0, 1));
        for (int weeks = 1; weeks <= 6; weeks++) {
            for (int own = 1; own <= 4; own++) {
                leaves(true, own, Math.min(weeks, 4), weeks, null);
            }
        }
    }

    // ---- conditions ----

    /** Whether a condition holds with own 2, next 3 and 5 weeks left. */
    private static void sells(boolean holds, String condition) {
        PatentRaces x = of("shop 2;shop 3;weeks 5;sell " + condition + ";");
        due(holds ? 0 : -1, condition, () -> x.sold(0, 1));
    }

    private static void relations() {
        about("R: <, > or =");
        sells(true, "1<2");
        sells(false, "2<2");
        sells(false, "3<2");
        sells(false, "1>2");
        sells(false, "2>2");
        sells(true, "3>2");
        sells(false, "1=2");
        sells(true, "2=2");
        sells(false, "3=2");
        sells(true, "0=0");
        sells(true, "9999=9999");
        sells(true, "9999>9998");
        sells(true, "0-1<0");
        sells(true, "0-9999<0-9998");
    }

    private static void names() {
        about("own, next, week");
        sells(true, "own=2");
        sells(true, "next=3");
        sells(true, "week=5");
        due(0, "next is the fewest", () -> of("shop 1;shop 4;shop 3;sell own=1 and next=3;").sold(0, 1));
        due(0, "next is the fewest", () -> of("shop 4;shop 3;shop 4;sell own=3 and next=4;").sold(1, 0));
        due(0, "next may be own", () -> of("shop 2;shop 2;sell own=next;").sold(1, 0));
        due(0, "the weeks of the beginning", () -> of("shop 2;shop 2;sell week=4;").sold(1, 0));
        due(0, "the last of the weeks counts", () -> of("weeks 2;shop 2;shop 2;sell week=6;weeks 6;").sold(1, 0));
        due(-1, "of the seller, not of the buyer", () -> of("shop 2;shop 3;sell own=3;").sold(0, 1));
        // With no other one IN, next is 9: the second, who would have the second prize, has left then.
        leaves(true, 3, 1, 1, "own=3 and next=1 and week=1");
        leaves(true, 1, 4, 4, "own=1 and next=4 and week=4");
        leaves(true, 4, 2, 6, "own=4 and next=2 and week=6");
        leaves(false, 2, 2, 6, "week<6");
        leaves(false, 2, 2, 6, "own<2");
        leaves(false, 2, 2, 6, "next<2 and week<6");
    }

    /**
     * Whether leave holds for one with own STEPS: the other comes to the prize by sure steps, and the
     * one that stays IN has the second of 5; told to LEAVE as the race begins, it has nothing.
     */
    private static void leaves(boolean holds, int own, int next, int weeks, String condition) {
        PatentRaces x = of("shop " + own + ";shop " + next + " pace 0 at 4;prize 0 second 5;weeks " + weeks + ";"
                + (condition == null ? "" : "leave " + condition + ";"));
        x.rule(0, own, next, 4);
        for (int steps = 1; steps <= 4; steps++) {
            x.rule(1, steps, own, 1);
            x.rule(1, steps, 9, 1);
        }
        due(holds ? 0 : 5L << 4 * weeks, condition, () -> x.judged(0));
    }

    private static void wrapping() {
        about("VALUES are whole numbers of 32 bits that wrap");
        sells(true, "256*256*256*127>0");
        sells(true, "256*256*256*128<0");
        sells(true, "256*256*256*128-1>0");
        sells(true, "256*256*256*127+256*256*255+256*255+255>0");
        sells(true, "256*256*256*127+256*256*255+256*255+256<0");
        sells(true, "256*256*256*256=0");
        sells(true, "256*256*256*256*9999+7=7");
        sells(true, "256*256*256*128<1");
        sells(false, "256*256*256*128>1");
        sells(true, "0-256*256*256*128=256*256*256*128");
        sells(true, "9999*9999*9999*9999=9999*9999*9999*9999");
        sells(true, "9999*9999*30<0");
        sells(true, "9999*9999*9999<0");
        sells(false, "9999*9999*9999=9999");
        sells(true, "0-9999*9999*21-9999*9999>0");
        sells(true, "65*9999*9999-9999*9999*65=0");
        leaves(true, 1, 1, 1, "256*256*256*128+own-1<0");
        leaves(false, 1, 1, 1, "256*256*256*128-own<0");
        about("T: U { * U }, E: T { + or - T }");
        sells(true, "2+3*4=14");
        sells(true, "2*3+4*5=26");
        sells(true, "(2+3)*4=20");
        sells(true, "5-3-1=1");
        sells(true, "5-(3-1)=3");
        sells(true, "5-3+1=3");
        sells(true, "2*3*4=24");
        sells(true, "10-2*3=4");
        sells(true, "((((((7))))))=7");
        sells(true, "own+next*week=17");
        sells(true, "week-next-own=0");
    }

    private static void order() {
        about("C: A { or A }, A: B { and B }, B: not B, [ C ]");
        sells(true, "1=1 or 1=1 and 1=2");
        sells(true, "1=2 and 1=1 or 1=1");
        sells(false, "[1=1 or 1=1]and 1=2");
        sells(false, "1=2 and[1=1 or 1=1]");
        sells(true, "not 1=2");
        sells(false, "not 1=1");
        sells(true, "not not 1=1");
        sells(false, "not 1=1 and 1=2");
        sells(true, "not[1=1 and 1=2]");
        sells(true, "not 1=1 or 1=1");
        sells(false, "not[1=1 or 1=1]");
        sells(true, "1=1 and not 1=2");
        sells(true, "1=2 or 1=2 or 1=1");
        sells(true, "1=1 or 1=2 or 1=2");
        sells(false, "1=1 and 1=1 and 1=2");
        sells(false, "1=2 and 1=1 and 1=1");
        sells(true, "1=1 and 1=1 and 1=1");
        sells(false, "1=2 or 1=2 or 1=2");
        sells(false, "1=1 and 1=2");
        sells(true, "1=2 or 1=1");
        sells(false, "1=2 or 1=2");
        sells(true, "[[[[[[1=1]]]]]]");
        sells(true, "1=2 and 1=2 or 1=1 and 1=1");
        sells(false, "not not not not not[1=1]");
        // Each relation under not, and beside each other one.
        String[] holding = {"1<2", "2>1", "1=1"};
        String[] failing = {"2<1", "1>2", "1=2"};
        for (int i = 0; i < 3; i++) {
            sells(false, "not " + holding[i]);
            sells(true, "not " + failing[i]);
            for (int k = 0; k < 3; k++) {
                sells(true, holding[i] + " and " + holding[k]);
                sells(false, holding[i] + " and " + failing[k]);
                sells(false, failing[i] + " and " + holding[k]);
                sells(true, holding[i] + " or " + holding[k]);
                sells(true, failing[i] + " or " + holding[k]);
                sells(false, failing[i] + " or " + failing[k]);
                sells(false, "not[" + holding[i] + " or " + failing[k] + "]");
                sells(false, "not[" + holding[i] + " and " + holding[k] + "]");
            }
        }
    }

    private static void manyTerms() {
        about("a RACE is a text of up to 500 bytes");
        // shop 2;shop 3;sell 1+1+..+1=N; of 500 bytes
        String head = "shop 2;shop 3;sell ";
        int ones = (500 - head.length() - "=238 ;".length()) / 2;
        String sum = "1" + "+1".repeat(ones - 1);
        String text = head + sum + "=" + ones + ";";
        String whole = text + " ".repeat(500 - text.length());
        due(2, "a sum of " + ones, () -> tell(new PatentRaces(), whole));
        due(0, "a sum of " + ones, () -> of(whole).sold(0, 1));
        String not = whole.replace("=" + ones, "=" + (ones - 1));
        due(-1, "a sum of " + ones, () -> of(not).sold(0, 1));
        String endless = "shop 1;" + "weeks 6;".repeat(61) + "prize";
        PatentRaces x = new PatentRaces();
        due(-9, "500 bytes and no end", () -> tell(x, endless));
        due(500, "fault()", x::fault);
        String many = "shop 1;" + "weeks 6;".repeat(61) + "sho";
        PatentRaces y = new PatentRaces();
        due(-9, "a word at the end", () -> tell(y, many));
        due(495, "fault()", y::fault);
        due(1, "without that word", () -> {
            put(y, many);
            return y.race(495);
        });
        due(62, "CLAUSES", () -> y.told(6));
        due(6, "the last byte is read, too", () -> of(" ".repeat(485) + "weeks 6;shop 1;").told(1));
    }

    // ---- what it answers then ----

    private static void raceStays() {
        about("the FAULT less 10 (the RACE stays)");
        String[] faults = {"", "shop", "shop 1", "shop 5;", "shop 1;shop 1;shop 1;shop 1;", "weeks 2;", "shop 1;prize 5;weeks 1;x",
            "shop 1;shop 2;shop 3;sell 1<1;leave 1<1;learn 4 behind 3;;"};
        int[] kinds = {4, 1, 1, 2, 3, 4, 1, 1};
        PatentRaces x = of("shop 2 pace 3 at 4;shop 3 pace 1 at 2;prize 90 second 6;weeks 3;learn 1 behind 2;sell 1=1;leave own>1;");
        x.rule(0, 2, 3, 1);
        x.rule(1, 3, 2, 1);
        x.rule(1, 3, 1, 4);
        x.offer(7);
        x.image();
        String before = picture(x);
        for (int i = 0; i < faults.length; i++) {
            String text = faults[i];
            due(kinds[i] - 10, "race of \"" + text + "\"", () -> tell(x, text));
            check(picture(x).equals(before), "after \"" + text + "\" it is " + picture(x) + ", and was " + before);
        }
        about("RULES are all rest then, if it is well read");
        due(3, "count(0)", () -> x.count(0));
        due(2, "race", () -> tell(x, "shop 2 pace 3 at 4;shop 3 pace 1 at 2;"));
        due(0, "count(0)", () -> x.count(0));
        due(0, "rule", () -> x.rule(1, 3, 1, 0));
        due(1, "the PRIZES stay", () -> x.count(1));
        due(1, "the IMAGES stay", () -> x.count(2));
        PatentRaces y = of("shop 1 pace 3 at 4;prize 9;weeks 1;");
        y.rule(0, 1, 9, 1);
        due(24, "9 - 3", () -> y.judged(0));
        due(0, "breaks()", y::breaks);
        tell(y, "shop 1 pace 3 at 4;prize 9;weeks 1;");
        due(0, "judged by rest", () -> y.judged(0));
        due(1, "rest breaks", y::breaks);
    }

    private static String picture(PatentRaces x) {
        StringBuilder all = new StringBuilder();
        for (int what = 0; what <= 6; what++) {
            all.append(x.told(what)).append(' ');
        }
        for (int what = 0; what <= 7; what++) {
            all.append(x.shop(0, what)).append(' ').append(x.shop(1, what)).append(' ');
        }
        all.append(x.count(0)).append(' ').append(x.count(1)).append(' ').append(x.count(2)).append(' ');
        all.append(x.judged(0)).append(' ').append(x.judged(1)).append(' ').append(x.breaks()).append(' ');
        all.append(x.sold(0, 1)).append(' ').append(x.worth(3, 32, 3, 0)).append(' ').append(x.worth(3, 32, 3, 1));
        return all.toString();
    }

    private static void faultOfTheLatest() {
        about("the place of the FAULT of the latest race(); NONE without");
        PatentRaces x = new PatentRaces();
        due(-1, "a new object", x::fault);
        tell(x, "weeks 0;");
        due(6, "fault()", x::fault);
        put(x, "shop 1;");
        due(6, "feed() is no race()", x::fault);
        x.image();
        x.restore();
        due(6, "restore() is no race()", x::fault);
        due(1, "race(7)", () -> x.race(7));
        due(-1, "without", x::fault);
        tell(x, "shop 5;");
        due(5, "fault()", x::fault);
        tell(x, "");
        due(0, "fault()", x::fault);
        put(x, "shop 1;");
        thrown(ARGUMENT, "race(21)", () -> x.race(21));
        due(0, "fault()", x::fault);
        x.race(7);
        due(-1, "without", x::fault);
    }

    private static void told() {
        about("another what");
        PatentRaces none = new PatentRaces();
        PatentRaces x = of(ALL);
        int[] due = {3, 5, 90, 8, 2, 1, 8};
        for (int what : new int[] {LEAST, -2, -1, 0, 1, 2, 3, 4, 5, 6, 7, 8, MOST}) {
            boolean stands = what >= 0 && what <= 6;
            dueOrThrown(stands, 0, ARGUMENT, "without a RACE told(" + what + ")", () -> none.told(what));
            dueOrThrown(stands, stands ? due[what] : 0, ARGUMENT, "told(" + what + ")", () -> x.told(what));
        }
        due(0, "behind of the learn that counts", () -> of("shop 1;learn 0 behind 3;").told(4));
        due(3, "behind of the learn that counts", () -> of("shop 1;learn 0 behind 3;").told(5));
    }

    private static void shop() {
        about("no such SHOP");
        PatentRaces none = new PatentRaces();
        PatentRaces x = of(ALL);
        int[][] due = {{2, 2, 3, 9, 0, 2, 4, 0}, {3, 0, 0, 0, 0, 0, 0, 0}, {4, 1, 0, 0, 0, 0, 0, 0}};
        for (int shop : new int[] {LEAST, -1, 0, 1, 2, 3, 4, MOST}) {
            for (int what : new int[] {LEAST, -1, 0, 1, 2, 3, 4, 5, 6, 7, 8, MOST}) {
                boolean isShop = shop >= 0 && shop <= 2;
                boolean isWhat = what >= 0 && what <= 7;
                thrown(ELEMENT, "without a RACE shop(" + shop + ", " + what + ")", () -> none.shop(shop, what));
                dueOrThrown(isShop && isWhat, isShop && isWhat ? due[shop][what] : 0, isShop ? ARGUMENT : ELEMENT,
                        "shop(" + shop + ", " + what + ")", () -> x.shop(shop, what));
            }
        }
        tell(x, "shop 1;");
        thrown(ELEMENT, "a SHOP of another RACE", () -> x.shop(1, 0));
        thrown(ARGUMENT, "STEPS of a SHOP of another RACE", () -> x.worth(4, 11, 1, 0));
        thrown(ARGUMENT, "STEPS of a SHOP of another RACE", () -> x.gain(4, 101, 1));
        due(0, "PACES of another RACE", () -> x.shop(0, 1));
        due(0, "a COST of another RACE", () -> x.shop(0, 2));
        due(0, "a CHANCE of another RACE", () -> x.shop(0, 5));
        tell(x, "shop 1 pace 1 at 1;");
        due(1, "PACES", () -> x.shop(0, 1));
        due(0, "a PACE of another RACE", () -> x.shop(0, 3));
        due(0, "a PACE of another RACE", () -> x.shop(0, 6));
    }
}
