/** Promises 20 to 23 and 25 to 31: what is asked of the house, and changes nothing in it. */
public final class QuestionTest {
    private static final Check CHECK = new Check("QuestionTest");
    private static final int LEAST = Integer.MIN_VALUE;
    private static final int MOST = Integer.MAX_VALUE;

    public static void main(String[] args) {
        odds();
        likeliest();
        due();
        quiet();
        quietTies();
        ghost();
        wrongGhosts();
        breach();
        silence();
        ears();
        seat();
        value();
        sale();
        CHECK.finish();
    }

    private static NoiseHouse house() {
        NoiseHouse x = new NoiseHouse();
        CHECK.house(x, "room 0;room 2;room 0;room 0;door 0 1 5;door 1 2 3;heir in 0 ear 5;heir in 2 ear 10;"
            + "noise clock 0 1 in 0 pitch 20 loud 30 worth 10;noise weather in 1 pitch 25 loud 20 worth 7;"
            + "noise beast 50 in 2 pitch 60 loud 15 worth 4;noise foot in 1 pitch 22 loud 40 worth 9");
        CHECK.house(x, "noise clock 5 in 3 pitch 22 loud 50 worth 99;stormy 10");
        return x;
    }

    private static void odds() {
        NoiseHouse x = house();
        // at room 0: 30, 13, 5, 33, 0
        CHECK.due("odds of 0", 10000 * 240 / 661, x.odds(0, 0, 22));
        CHECK.due("odds of 1", 10000 * 91 / 661, x.odds(1, 0, 22));
        CHECK.due("odds of 2, too far off", 0, x.odds(2, 0, 22));
        CHECK.due("odds of 3", 10000 * 330 / 661, x.odds(3, 0, 22));
        CHECK.due("odds of 4, not to be heard there", 0, x.odds(4, 0, 22));
        CHECK.due("odds of 4 in its room", 10000, x.odds(4, 3, 22));
        CHECK.due("odds of 2, 9 off", 10000, x.odds(2, 2, 69));
        CHECK.due("odds of 2, 10 off", 0, x.odds(2, 2, 70));
        CHECK.due("odds without any", 0, x.odds(0, 0, 99));
        x.oil(4, 49);
        CHECK.due("odds of the least weight", 10000, x.odds(4, 3, 31));
        CHECK.due("the likeliest of it", 4, x.likeliest(3, 31));
        x.undo();
        x.oil(3, 33);
        CHECK.due("odds of 0, another oiled", 10000 * 240 / 331, x.odds(0, 0, 22));
        for (int pitch : new int[] {-1, 100, LEAST, MOST}) {
            CHECK.illegal("odds of pitch " + pitch, () -> x.odds(0, 0, pitch));
            CHECK.outOfBounds("odds in no room", () -> x.odds(0, 4, pitch));
            CHECK.outOfBounds("odds of no noise", () -> x.odds(5, 0, pitch));
        }
        CHECK.outOfBounds("odds(-1, 0, 0)", () -> x.odds(-1, 0, 0));
        CHECK.outOfBounds("odds(0, -1, 0)", () -> x.odds(0, -1, 0));
    }

    private static void likeliest() {
        NoiseHouse x = house();
        CHECK.due("likeliest(0, 22)", 3, x.likeliest(0, 22));
        CHECK.due("likeliest(3, 22)", 4, x.likeliest(3, 22));
        CHECK.due("likeliest(0, 14)", 0, x.likeliest(0, 14));
        CHECK.due("likeliest(0, 99)", -1, x.likeliest(0, 99));
        for (int pitch : new int[] {-1, 100, LEAST, MOST}) {
            CHECK.illegal("likeliest of pitch " + pitch, () -> x.likeliest(0, pitch));
            CHECK.outOfBounds("likeliest in no room", () -> x.likeliest(4, pitch));
        }
        NoiseHouse y = new NoiseHouse();
        CHECK.house(y, "room 0;noise foot in 0 pitch 4 loud 9 worth 1;noise foot in 0 pitch 5 loud 10 worth 1;noise foot in 0 pitch 7 loud 10 worth 1");
        CHECK.due("of several the least", 1, y.likeliest(0, 6));
        NoiseHouse z = new NoiseHouse();
        CHECK.house(z, "room 0");
        CHECK.due("without noises", -1, z.likeliest(0, 0));
    }

    private static void due() {
        NoiseHouse x = house();
        CHECK.due("a clock", 2 * 100 * 10 * 10, x.due(0, 10));
        CHECK.due("weather", 24 * 10 * 7, x.due(1, 1));
        CHECK.due("a beast", 24L * 50 * 200 * 4, x.due(2, 200));
        CHECK.due("a foot", 0, x.due(3, 10));
        CHECK.due("one that none hears", 0, x.due(4, 10));
        x.go(0, 3);
        CHECK.due("one that one hears now", 100 * 10 * 99, x.due(4, 10));
        for (int days : new int[] {0, 201, -1, LEAST, MOST}) {
            CHECK.illegal("due for days " + days, () -> x.due(0, days));
            CHECK.outOfBounds("due of no noise", () -> x.due(5, days));
        }
        CHECK.outOfBounds("due(-1, 1)", () -> x.due(-1, 1));
        NoiseHouse y = new NoiseHouse();
        CHECK.house(y, "room 0;heir in 0 ear 1;noise beast 100 in 0 pitch 1 loud 9 worth 99");
        CHECK.due("the greatest", 24L * 100 * 200 * 99, y.due(0, 200));
    }

    private static void quiet() {
        NoiseHouse x = house();
        // at room 0: 30, 13, 5, 33, 0, due for a day: 2000, 1680, 4800, 0, 0
        CHECK.due("all may sound", 0, x.quiet(0, 81, 1));
        CHECK.due("the one that is due nothing", 8, x.quiet(0, 80, 1));
        CHECK.due("that one again", 8, x.quiet(0, 48, 1));
        CHECK.due("the lesser due", 8 | 2, x.quiet(0, 47, 1));
        CHECK.due("the lesser due again", 8 | 2, x.quiet(0, 35, 1));
        CHECK.due("the louder one", 8 | 1, x.quiet(0, 34, 1));
        CHECK.due("both", 8 | 2 | 1, x.quiet(0, 17, 1));
        CHECK.due("all that are heard there", 15, x.quiet(0, 0, 200));
        CHECK.due("another room", 16, x.quiet(3, 49, 1));
        CHECK.due("another room's own", 0, x.quiet(3, 50, 1));
        CHECK.due("the greatest target", 0, x.quiet(0, 999, 1));
        for (int target : new int[] {-1, 1000, LEAST, MOST}) {
            CHECK.illegal("quiet of target " + target, () -> x.quiet(0, target, 1));
            CHECK.outOfBounds("quiet in no room", () -> x.quiet(4, target, 1));
        }
        for (int days : new int[] {0, 201, LEAST, MOST}) {
            CHECK.illegal("quiet of days " + days, () -> x.quiet(0, 0, days));
            CHECK.outOfBounds("quiet in no room", () -> x.quiet(-1, 0, days));
        }
        NoiseHouse y = new NoiseHouse();
        CHECK.house(y, "room 0");
        CHECK.due("without noises", 0, y.quiet(0, 0, 1));
    }

    private static void quietTies() {
        NoiseHouse x = new NoiseHouse();
        CHECK.house(x, "room 0;noise foot in 0 pitch 1 loud 10 worth 1;noise foot in 0 pitch 1 loud 10 worth 1;"
            + "noise foot in 0 pitch 1 loud 20 worth 1;noise foot in 0 pitch 1 loud 20 worth 1;noise foot in 0 pitch 1 loud 5 worth 1");
        CHECK.due("the fewest, then the least", 4, x.quiet(0, 45, 1));
        CHECK.due("the least of one", 1, x.quiet(0, 55, 1));
        CHECK.due("the fewest of two", 5, x.quiet(0, 35, 1));
        CHECK.due("the fewest, not the least as bits", 12, x.quiet(0, 25, 1));
        NoiseHouse v = new NoiseHouse();
        CHECK.house(v, "room 0;noise foot in 0 pitch 1 loud 5 worth 1;noise foot in 0 pitch 1 loud 10 worth 1;"
            + "noise foot in 0 pitch 1 loud 10 worth 1;noise foot in 0 pitch 1 loud 15 worth 1");
        CHECK.due("two: 6 is less than 9", 6, v.quiet(0, 20, 1));
        NoiseHouse y = new NoiseHouse();
        CHECK.house(y, "room 0;heir in 0 ear 1;noise clock 1 in 0 pitch 1 loud 10 worth 2;noise clock 1 in 0 pitch 1 loud 10 worth 1;"
            + "noise clock 1 in 0 pitch 1 loud 10 worth 1");
        CHECK.due("the two of the least due, though 3 is less as bits", 6, y.quiet(0, 10, 1));
        CHECK.due("one alone, of the least due", 2, y.quiet(0, 20, 1));
        NoiseHouse z = new NoiseHouse();
        CHECK.house(z, "room 0;heir in 0 ear 1;noise clock 1 in 0 pitch 1 loud 10 worth 1;noise clock 1 in 0 pitch 1 loud 10 worth 1;"
            + "noise clock 1 in 0 pitch 1 loud 20 worth 2");
        CHECK.due("the same due: the fewest", 4, z.quiet(0, 20, 1));
    }

    /** The bytes of a ghost: a ROOM, how loud, a ROOM, how loud .. */
    private static String told(int... rows) {
        StringBuilder bytes = new StringBuilder();
        for (int at = 0; at < rows.length; at++) {
            bytes.append((char) (at % 2 == 0 ? 97 + rows[at] : rows[at]));
        }
        return bytes.toString();
    }

    private static void found(NoiseHouse x, int many, int room, int loud, int... rows) {
        int[] due = {many, room, loud};
        for (int what = 0; what < 3; what++) {
            Check.write(x, told(rows));
            CHECK.due("ghost(" + what + ") of " + java.util.Arrays.toString(rows), due[what], x.ghost(what));
            CHECK.due("the TAPE is used up", false, x.end(1));
        }
    }

    private static void ghost() {
        NoiseHouse x = house();
        found(x, 2, 1, 20, 0, 13, 1, 18);
        found(x, 0, -1, -1, 0, 99, 1, 99);
        found(x, 1, 3, 99, 3, 99, 0, 0);
        // nothing at 0: LOUD to 7 in 1, to 10 in 2, all 99 in 3
        found(x, 7 + 10 + 99, 1, 1, 0, 0);
        found(x, 0, -1, -1, 0, 1, 1, 1, 2, 1, 3, 1, 0, 1, 1, 1);
        found(x, 3, 0, 20, 0, 20, 0, 20, 0, 20, 0, 20, 0, 20, 0, 20);
        found(x, 0, -1, -1, 0, 20, 0, 21);
        x.oil(0, 99);
        x.carpet(1, 20);
        found(x, 2, 1, 38, 0, 13, 1, 18);
        x.carpet(2, 20);
        found(x, 1, 1, 38, 0, 13, 1, 18, 2, 0);
    }

    private static void wrongGhosts() {
        NoiseHouse x = house();
        for (int what : new int[] {-1, 3, LEAST, MOST}) {
            Check.write(x, told(0, 13));
            CHECK.noSuch("ghost(" + what + ")", () -> x.ghost(what));
            CHECK.due("the TAPE is used up", false, x.end(1));
            CHECK.noSuch("ghost(" + what + ") of none", () -> x.ghost(what));
        }
        int[][] wrong = {{}, {0}, {0, 1, 1}, {4, 1}, {-1, 1}, {-97, 1}, {0, 100}, {0, 255}, {128, 1}, {0, 1, 0, 228},
            {0, 1, 1, 1, 2, 1, 3, 1, 0, 1, 1, 1, 2, 1}};
        for (int[] rows : wrong) {
            Check.write(x, told(rows));
            CHECK.illegal("ghost(0) of " + java.util.Arrays.toString(rows), () -> x.ghost(0));
            CHECK.due("the TAPE is used up", false, x.end(1));
        }
        NoiseHouse y = new NoiseHouse();
        Check.write(y, told(0, 0));
        CHECK.illegal("ghost(0) without rooms", () -> y.ghost(0));
    }

    private static void breach() {
        NoiseHouse x = house();
        // now for 10 days: 20000, 16800, 48000, 0, 0
        CHECK.due("a carpet where the clock is", 0, x.breach(0, 10));
        CHECK.due("one on which the clock is heard by none in 2", 0, x.breach(0, 11));
        CHECK.due("a thicker one", 0, x.breach(0, 20));
        CHECK.due("in 1: the weather is heard by none", 16800, x.breach(1, 20));
        CHECK.due("the one there", 0, x.breach(1, 2));
        CHECK.due("in 2: the beast is heard by none", 48000, x.breach(2, 6));
        CHECK.due("in 2: the beast is just heard", 0, x.breach(2, 5));
        x.carpet(2, 20);
        CHECK.due("less of a carpet", -48000, x.breach(2, 0));
        CHECK.due("the carpet stays", 20, x.room(2, 0));
        CHECK.due("the cost stays", 30, x.cost(0, 2));
        CHECK.due("no act", 1, x.count(13));
        for (int n : new int[] {-1, 21, LEAST, MOST}) {
            CHECK.illegal("breach of " + n, () -> x.breach(0, n));
            CHECK.outOfBounds("breach in no room", () -> x.breach(4, n));
        }
        CHECK.outOfBounds("breach(-1, 0)", () -> x.breach(-1, 0));
    }

    private static void silence() {
        NoiseHouse x = house();
        // heard at 0: 0 to 3, due for a day 2000, 1680, 4800, 0
        CHECK.due("rounds", 48, x.silence(0, 1, 100, false));
        CHECK.due("paid", 2000 + 1700 + 4800 + 100, x.silence(0, 1, 100, true));
        CHECK.due("rounds of 999", 5, x.silence(0, 1, 999, false));
        CHECK.due("paid by 999", 999 * (3 + 2 + 5 + 1), x.silence(0, 1, 999, true));
        CHECK.due("rounds of 1", 4800, x.silence(0, 1, 1, false));
        CHECK.due("paid by 1", 2000 + 1680 + 4800 + 1, x.silence(0, 1, 1, true));
        CHECK.due("too many rounds", -1, x.silence(0, 3, 1, false));
        CHECK.due("too many rounds, paid", -1, x.silence(0, 3, 1, true));
        CHECK.due("in a room of its own", 1, x.silence(3, 200, 7, false));
        CHECK.due("in a room of its own, paid", 7, x.silence(3, 200, 7, true));
        x.oil(4, 50);
        CHECK.due("without such", 0, x.silence(3, 1, 1, false));
        CHECK.due("without such, paid", 0, x.silence(3, 1, 1, true));
        for (int days : new int[] {0, 201, LEAST, MOST}) {
            CHECK.illegal("silence for days " + days, () -> x.silence(0, days, 1, true));
            CHECK.outOfBounds("silence in no room", () -> x.silence(4, days, 1, true));
        }
        for (int step : new int[] {0, 1000, -1, LEAST, MOST}) {
            CHECK.illegal("silence by step " + step, () -> x.silence(0, 1, step, false));
            CHECK.outOfBounds("silence in no room", () -> x.silence(-1, 1, step, false));
        }
        NoiseHouse y = new NoiseHouse();
        CHECK.house(y, "room 0;heir in 0 ear 1;noise clock 0 1 2 3 4 5 6 7 8 in 0 pitch 1 loud 9 worth 11;noise clock 0 in 0 pitch 1 loud 9 worth 99");
        CHECK.due("9900 rounds", 9900, y.silence(0, 1, 1, false));
        NoiseHouse z = new NoiseHouse();
        CHECK.house(z, "room 0;heir in 0 ear 1;stormy 1;noise weather in 0 pitch 1 loud 9 worth 99");
        // 24 times 99 times days by 2: 8 days are 9504, 9 days are 10692 rounds
        CHECK.due("9504 rounds", 9504, z.silence(0, 8, 2, false));
        CHECK.due("10692 rounds", -1, z.silence(0, 9, 2, false));
        NoiseHouse v = new NoiseHouse();
        CHECK.house(v, "room 0;heir in 0 ear 1;noise clock 0 in 0 pitch 1 loud 9 worth 99;noise clock 0 in 0 pitch 1 loud 9 worth 99");
        // 9900 a day: 101 days are 999900: by 100 rounds are 9999
        CHECK.due("9999 rounds", 9999, v.silence(0, 101, 100, false));
        CHECK.due("9999 rounds, paid", 2 * 999900, v.silence(0, 101, 100, true));
        CHECK.due("10000 rounds", -1, v.silence(0, 100, 99, false));
    }

    private static void ears() {
        NoiseHouse x = house();
        CHECK.due("of 0", 100 * 30 / 50, x.ears(0, 0));
        CHECK.due("of 1", 100 * 20 / 50, x.ears(1, 0));
        CHECK.due("beast, of 0", 100 * 5 / 20, x.ears(0, 2));
        CHECK.due("beast, of 1", 100 * 15 / 20, x.ears(1, 2));
        CHECK.due("by none", 0, x.ears(0, 4));
        x.oil(2, 1);
        CHECK.due("of one who does not hear", 0, x.ears(0, 2));
        CHECK.due("of the only one", 100, x.ears(1, 2));
        CHECK.house(x, "heir in 0 ear 1");
        CHECK.due("rounded down", 100 * 30 / 80, x.ears(0, 0));
        x.oil(0, 29);
        CHECK.due("the least to be heard, by the only one", 100, x.ears(2, 0));
        for (int one : new int[] {-1, 5, LEAST, MOST}) {
            CHECK.outOfBounds("ears of heir " + one, () -> x.ears(one, 0));
            CHECK.outOfBounds("ears of noise " + one, () -> x.ears(0, one));
        }
    }

    private static void seat() {
        NoiseHouse x = house();
        CHECK.due("without a will the least", 0, x.seat(1));
        CHECK.will(x, "to 0 part 3 if clock;to 1 part 1", 2);
        // a day: the clock 2000, 3 to 1; weather 1680, beast 4800 for 1 alone; the clock in 3 9900, 3 to 1
        CHECK.due("for 0: the clock in 3", 3, x.seat(0));
        CHECK.due("for 1: all but it, in 1 already", 1, x.seat(1));
        CHECK.will(x, "to 1 part 1 if weather and hears", 1);
        CHECK.due("titles of where one sits now", 0, x.seat(1));
        x.go(1, 3);
        CHECK.due("of where it is not heard", 0, x.seat(1));
        CHECK.will(x, "to 1 part 1 if noise > 3", 1);
        x.go(1, 0);
        CHECK.due("also what is heard by none now", 3, x.seat(1));
        CHECK.due("where one sits stays", 0, x.heir(1, 0));
        for (int heir : new int[] {-1, 2, LEAST, MOST}) {
            CHECK.outOfBounds("seat(" + heir + ")", () -> x.seat(heir));
        }
        NoiseHouse y = new NoiseHouse();
        CHECK.house(y, "room 0;room 0;heir in 0 ear 9;heir in 0 ear 9;noise clock 0 in 0 pitch 1 loud 9 worth 1;noise beast 1 in 1 pitch 1 loud 9 worth 1;"
            + "noise beast 1 in 1 pitch 1 loud 9 worth 1;noise beast 1 in 1 pitch 1 loud 9 worth 1;noise beast 1 in 1 pitch 1 loud 9 worth 1;"
            + "noise beast 1 in 1 pitch 1 loud 9 worth 1");
        CHECK.will(y, "to 0 part 41 if beast;to 1 part 7 if beast;to 0 part 1 if clock", 3);
        // 24 times 41 by 48 is 20.5: five of 20 are not more than the clock's 100, five of 20.5 were
        CHECK.due("rounded down for each", 0, y.seat(0));
        CHECK.house(y, "noise beast 1 in 1 pitch 1 loud 9 worth 1");
        CHECK.due("more in 1", 1, y.seat(0));
    }

    private static void value() {
        NoiseHouse x = house();
        CHECK.due("without a will", 0, x.value(0));
        CHECK.will(x, "to 0 part 3 if clock;to 1 part 1", 2);
        // 100 days: 200000, 168000, 480000, 0, 0
        CHECK.due("value of 0", 150000, x.value(0));
        CHECK.due("value of 1", 50000 + 168000 + 480000, x.value(1));
        CHECK.will(x, "to 0 part 1;to 1 part 2", 2);
        CHECK.due("value of 0, rounded", 66666 + 56000 + 160000, x.value(0));
        CHECK.due("value of 1, with what is left over", 133334 + 112000 + 320000, x.value(1));
        for (int heir : new int[] {-1, 2, LEAST, MOST}) {
            CHECK.outOfBounds("value(" + heir + ")", () -> x.value(heir));
        }
        NoiseHouse y = new NoiseHouse();
        CHECK.house(y, "room 0;heir in 0 ear 1;noise beast 100 in 0 pitch 1 loud 9 worth 99");
        CHECK.will(y, "to 0 part 999;".repeat(11) + "to 0 part 999", 12);
        CHECK.due("the greatest", 24L * 100 * 100 * 99, y.value(0));
    }

    private static void sale() {
        NoiseHouse x = house();
        CHECK.due("of several the least", 0, x.sale(false));
        CHECK.due("nothing is paid", 0, x.sale(true));
        CHECK.will(x, "to 0 part 1;to 1 part 2", 2);
        CHECK.due("the buyer", 1, x.sale(false));
        CHECK.due("the sum", 282666, x.sale(true));
        CHECK.house(x, "heir in 3 ear 9");
        CHECK.will(x, "to 0 part 1;to 1 part 1;to 2 part 3", 3);
        CHECK.due("the buyer of three", 2, x.sale(false));
        CHECK.due("the sum of two", x.value(0) + x.value(1), x.sale(true));
        CHECK.due("told, not done", 0, x.count(11));
        NoiseHouse y = new NoiseHouse();
        CHECK.house(y, "room 0");
        CHECK.due("none without heirs", -1, y.sale(false));
        CHECK.due("none without heirs, the sum", -1, y.sale(true));
    }
}
