/** Each sentence about COST, hearing, PARTED, HOURS, ACTS and WHICH that names a bound, with a test of its own. */
public final class HourBoundsTest {
    private static final Check CHECK = new Check("HourBoundsTest");

    public static void main(String[] args) {
        costOfTheSame();
        costComesInto();
        atLeastNothing();
        hearsFromEarOn();
        partedDown();
        leftOver();
        toTheChest();
        storms();
        seedGoesRound();
        drawnForEach();
        clocks();
        feet();
        heardByNone();
        soundedNone();
        nextDay();
        stormOfTheLatestHour();
        books();
        oilAtMost();
        farOff();
        odds();
        likeliest();
        CHECK.finish();
    }

    private static void costOfTheSame() {
        CHECK.sentence("by DOORS; 0 in the same one.");
        NoiseHouse x = new NoiseHouse();
        CHECK.house(x, "room 20;room 20;room 3;door 0 1 1;noise foot in 0 pitch 1 loud 50 worth 1");
        for (int room = 0; room < 3; room++) {
            CHECK.due("cost to itself of " + room, 0, x.cost(room, room));
        }
        CHECK.due("to the other", 21, x.cost(0, 1));
        CHECK.due("in its own room its carpet counts once", 30, x.at(0, 0));
        CHECK.due("in the other the two", 9, x.at(0, 1));
    }

    private static void costComesInto() {
        CHECK.sentence("the least sum of HOLDS, and CARPETS of all ROOMS that are come into");
        NoiseHouse x = new NoiseHouse();
        CHECK.house(x, "room 20;".repeat(9) + "room 20");
        CHECK.house(x, "door 0 1 30;door 1 2 30;door 2 3 30;door 3 4 30;door 4 5 30;door 5 6 30;door 6 7 30;door 7 8 30;door 8 9 30");
        CHECK.due("the longest way of all", 450, x.cost(0, 9));
        CHECK.due("and back", 450, x.cost(9, 0));
        CHECK.house(x, "carpet 9 0");
        CHECK.due("into a room without a carpet", 430, x.cost(0, 9));
        CHECK.due("out of it", 450, x.cost(9, 0));
        NoiseHouse y = new NoiseHouse();
        CHECK.house(y, "room 0;room 1;room 0;door 0 2 11;door 0 1 5;door 1 2 5");
        CHECK.due("two ways that cost the same", 11, y.cost(0, 2));
        y.carpet(1, 0);
        CHECK.due("the way by another room is one less", 10, y.cost(0, 2));
        y.carpet(1, 2);
        CHECK.due("the way by another room is one more", 11, y.cost(0, 2));
        NoiseHouse z = new NoiseHouse();
        CHECK.house(z, "room 4;room 0;room 0;door 1 0 2;door 0 2 3");
        CHECK.due("by the room of number 0", 2 + 4 + 3, z.cost(1, 2));
    }

    private static void atLeastNothing() {
        CHECK.sentence("less CARPET of its own ROOM; 0 at least (0 without a way).");
        NoiseHouse x = new NoiseHouse();
        CHECK.house(x, "room 2;room 3;room 0;door 0 1 5;noise foot in 0 pitch 1 loud 11 worth 1;noise foot in 0 pitch 1 loud 99 worth 1");
        CHECK.due("one above nothing", 1, x.at(0, 1));
        CHECK.due("together, from the noise of number 0 on", 9 + 97, x.room(0, 3));
        CHECK.due("without a way", 0, x.at(1, 2));
        x.oil(0, 1);
        CHECK.due("just nothing", 0, x.at(0, 1));
        CHECK.due("in its own room", 8, x.at(0, 0));
        x.oil(0, 1);
        CHECK.due("not below it", 0, x.at(0, 1));
        x.oil(0, 99);
        CHECK.due("nor in its own room", 0, x.at(0, 0));
        CHECK.due("together in its own room", 97, x.room(0, 3));
        CHECK.due("together in the other", 89, x.room(1, 3));
        CHECK.due("together without a way", 0, x.room(2, 3));
    }

    private static void hearsFromEarOn() {
        CHECK.sentence("An HEIR HEARS it, if AT the ROOM where one sits it is EAR at least.");
        NoiseHouse x = new NoiseHouse();
        CHECK.house(x, "room 0;room 0;heir in 0 ear 49;heir in 0 ear 50;heir in 0 ear 1;heir in 1 ear 1;"
            + "noise foot in 0 pitch 1 loud 50 worth 1;noise foot in 0 pitch 1 loud 1 worth 1");
        CHECK.due("one above ear", 1, x.heir(0, 3));
        CHECK.due("just ear", 1, x.heir(1, 3));
        CHECK.due("the least noise, by the least ear", 3, x.heir(2, 3));
        CHECK.due("without a way", 0, x.heir(3, 3));
        x.oil(0, 1);
        CHECK.due("just ear by oil", 1, x.heir(0, 3));
        CHECK.due("one below ear", 0, x.heir(1, 3));
        x.oil(1, 1);
        CHECK.due("what is nothing is heard by none", 1, x.heir(2, 3));
    }

    /** Six HEIRS in one ROOM, a NOISE of WORTH 99, and a WILL of these TITLES. */
    private static NoiseHouse six(int... titles) {
        NoiseHouse x = new NoiseHouse();
        CHECK.house(x, "room 0;" + "heir in 0 ear 1;".repeat(6) + "noise clock 0 in 0 pitch 1 loud 9 worth 99");
        StringBuilder will = new StringBuilder();
        for (int heir = 0; heir < titles.length; heir++) {
            will.append(heir == 0 ? "to " : ";to ").append(heir).append(" part ").append(titles[heir]);
        }
        CHECK.will(x, will.toString(), titles.length);
        return x;
    }

    private static void parts(NoiseHouse x, int amount, int... due) {
        for (int heir = 0; heir < due.length; heir++) {
            CHECK.due("of " + amount + " the part of " + heir, due[heir], x.part(heir, 0, amount));
        }
        CHECK.due("of " + amount + " the part of the chest", 0, x.part(-1, 0, amount));
    }

    private static void partedDown() {
        CHECK.sentence("PARTED: an amount by TITLES to a NOISE: amount times TITLE by all TITLES, rounded down;");
        parts(six(1, 999, 1), 0, 0, 0, 0, 0, 0, 0);
        parts(six(1, 999, 1), 1001, 1, 999, 1, 0, 0, 0);
        parts(six(999, 999, 999, 999, 999, 999), 99999, 16667, 16667, 16667, 16666, 16666, 16666);
        parts(six(999), 99999, 99999, 0, 0, 0, 0, 0);
        parts(six(0, 0, 0, 0, 0, 1), 99999, 0, 0, 0, 0, 0, 99999);
    }

    private static void leftOver() {
        CHECK.sentence("what is left over: a coin each, from the greatest TITLE on (above 0), of several the least number;");
        parts(six(1, 1, 1, 1, 1, 1), 5, 1, 1, 1, 1, 1, 0);
        parts(six(1, 1, 1, 1, 1, 1), 6, 1, 1, 1, 1, 1, 1);
        parts(six(1, 1, 1, 1, 1, 1), 7, 2, 1, 1, 1, 1, 1);
        parts(six(1, 999, 1), 2, 0, 2, 0, 0, 0, 0);
        parts(six(1, 999, 1), 1000, 1, 999, 0, 0, 0, 0);
        parts(six(0, 2, 0, 3, 0, 3), 2, 0, 0, 0, 1, 0, 1);
        parts(six(0, 2, 0, 3, 0, 3), 1, 0, 0, 0, 1, 0, 0);
        parts(six(0, 1, 0, 1, 0, 1), 2, 0, 1, 0, 1, 0, 0);
    }

    private static void toTheChest() {
        CHECK.sentence("to THE CHEST all, if all TITLES are 0 (a ghost).");
        NoiseHouse x = six(0, 0, 0, 0, 0, 0);
        CHECK.due("all to the chest", 99999, x.part(-1, 0, 99999));
        CHECK.due("nothing to an heir", 0, x.part(5, 0, 99999));
        CHECK.due("of nothing", 0, x.part(-1, 0, 0));
        x.hours(1);
        CHECK.due("the chest is paid", 99, x.count(10));
        CHECK.will(x, "to 5 part 1", 1);
        x.hours(24);
        CHECK.due("but not if one has a title", 99, x.count(10));
        CHECK.due("that one is", 99, x.heir(5, 2));
        NoiseHouse y = new NoiseHouse();
        CHECK.house(y, "room 0;noise foot in 0 pitch 1 loud 9 worth 1");
        CHECK.will(y, "to 0 part 9", 1);
        CHECK.due("without heirs", 7, y.part(-1, 0, 7));
    }

    private static int next(int seed) {
        return 1103515245 * seed + 12345;
    }

    private static int drawn(int seed) {
        return (next(seed) >>> 16 & 0x7fff) % 100;
    }

    /** A SEED whose DRAW modulo 100 is this, and whose next SEED is below 0 or not. */
    private static int seedFor(int draw, boolean below) {
        for (int seed = 0; seed < 1000000; seed++) {
            if (drawn(seed) == draw && next(seed) < 0 == below) {
                return seed;
            }
        }
        throw new IllegalStateException("there is no such seed");
    }

    private static void storms() {
        CHECK.sentence("AN HOUR goes by: DRAW modulo 100 below STORMY: a STORM.");
        for (int draw : new int[] {0, 1, 49, 50, 98, 99}) {
            for (boolean below : new boolean[] {false, true}) {
                NoiseHouse x = new NoiseHouse();
                CHECK.house(x, "room 0;noise weather in 0 pitch 1 loud 1 worth 1;stormy " + draw);
                x.seed(seedFor(draw, below));
                CHECK.due("DRAW " + draw + " is not below it", 0, x.hours(1));
                CHECK.due("no storm", 0, x.count(9));
                CHECK.house(x, "stormy " + (draw + 1));
                x.seed(seedFor(draw, below));
                CHECK.due("DRAW " + draw + " is below one more", 1, x.hours(1));
                CHECK.due("a storm", 1, x.count(9));
            }
        }
        NoiseHouse never = new NoiseHouse();
        CHECK.house(never, "room 0;noise weather in 0 pitch 1 loud 1 worth 1");
        CHECK.due("0: never", 0, never.hours(240));
        CHECK.house(never, "stormy 100");
        CHECK.due("100: always", 240, never.hours(240));
    }

    private static void seedGoesRound() {
        CHECK.sentence("SEED is 1103515245 times SEED and 12345, as an int that goes round; bits 16 to 30 (SEED 1 at first).");
        NoiseHouse x = new NoiseHouse();
        CHECK.due("at first", 1, x.seed(1));
        x.hours(1);
        CHECK.due("behind an hour", 1103527590, x.seed(0));
        x.hours(1);
        CHECK.due("from 0", 12345, x.seed(2));
        x.hours(1);
        CHECK.due("from 2 it goes round", -2087924461, x.seed(-1));
        x.hours(1);
        CHECK.due("from -1", -1103502900, x.seed(Integer.MAX_VALUE));
        x.hours(1);
        CHECK.due("from the greatest", 1043980748, x.seed(Integer.MIN_VALUE));
        x.hours(1);
        CHECK.due("from the least", -2147471303, x.seed(1));
        x.hours(240);
        int seed = 1;
        for (int hour = 0; hour < 240; hour++) {
            seed = next(seed);
        }
        CHECK.due("a draw each hour", seed, x.seed(1));
    }

    private static void drawnForEach() {
        CHECK.sentence("beast: DRAW modulo 100 below CHANCE (drawn for each beast, each hour)");
        for (int draw : new int[] {0, 1, 50, 99}) {
            NoiseHouse x = new NoiseHouse();
            CHECK.house(x, "room 0;noise beast " + draw + " in 0 pitch 1 loud 1 worth 1;noise beast " + (draw + 1)
                + " in 0 pitch 1 loud 1 worth 1");
            int first = seedBehind(seedFor(draw, false));
            x.seed(first);
            x.hours(1);
            CHECK.due("DRAW " + draw + " is not below it", 0, x.noise(0, 8));
            CHECK.due("two beasts and a storm are drawn", next(next(next(first))), x.seed(seedBehind(seedBehind(seedFor(draw, true)))));
            int before = x.noise(1, 8);
            x.hours(1);
            CHECK.due("DRAW " + draw + " is below one more", before + 1, x.noise(1, 8));
        }
        NoiseHouse x = new NoiseHouse();
        CHECK.house(x, "room 0;noise beast 0 in 0 pitch 1 loud 1 worth 1;noise beast 100 in 0 pitch 1 loud 1 worth 1;"
            + "noise clock 0 in 0 pitch 1 loud 1 worth 1;noise foot in 0 pitch 1 loud 1 worth 1;noise weather in 0 pitch 1 loud 1 worth 1");
        x.make(3);
        x.hours(1);
        CHECK.due("none is drawn for a clock, a foot, the weather", next(next(next(1))), x.seed(1));
        x.hours(239);
        CHECK.due("0: never", 0, x.noise(0, 8));
        CHECK.due("100: always", 240, x.noise(1, 8));
    }

    /** The SEED of which this one is the next: 1103515245 has an inverse among ints. */
    private static int seedBehind(int seed) {
        int inverse = 1;
        for (int step = 0; step < 5; step++) {
            inverse *= 2 - 1103515245 * inverse;
        }
        return inverse * (seed - 12345);
    }

    private static void clocks() {
        CHECK.sentence("whether it sounds: clock by HOUR; weather by STORM;");
        NoiseHouse x = new NoiseHouse();
        CHECK.house(x, "room 0;noise clock 0 in 0 pitch 1 loud 1 worth 1;noise clock 23 in 0 pitch 1 loud 1 worth 1;"
            + "noise clock 0 23 in 0 pitch 1 loud 1 worth 1");
        CHECK.due("hour 0", 2, x.hours(1));
        CHECK.due("hours 1 to 22", 0, x.hours(22));
        CHECK.due("hour 23", 2, x.hours(1));
        CHECK.due("hour 0 of the next day", 2, x.hours(1));
        CHECK.due("the latest of the first", 24, x.noise(0, 7));
        CHECK.due("the latest of the second", 23, x.noise(1, 7));
    }

    private static void feet() {
        CHECK.sentence("foot: if it was made to since the HOUR before.");
        NoiseHouse x = new NoiseHouse();
        CHECK.house(x, "room 0;noise foot in 0 pitch 1 loud 1 worth 1");
        CHECK.due("not made to", 0, x.hours(2));
        x.make(0);
        x.make(0);
        CHECK.due("made to twice: it sounds once", 1, x.hours(1));
        CHECK.due("not again", 0, x.hours(2));
        x.make(0);
        CHECK.due("of many hours in the first alone", 1, x.hours(240));
        CHECK.due("that one", 5, x.noise(0, 7));
        x.make(0);
        x.undo();
        CHECK.due("undone", 0, x.hours(1));
        x.make(0);
        CHECK.house(x, "stormy 1");
        CHECK.will(x, "bar 0", 1);
        CHECK.due("made to ahead of a text", 1, x.hours(1));
    }

    private static void heardByNone() {
        CHECK.sentence("If it sounds, and some HEIR HEARS it: WORTH is PARTED (TITLES of then).");
        NoiseHouse x = new NoiseHouse();
        CHECK.house(x, "room 0;heir in 0 ear 10;heir in 0 ear 50;noise clock 0 in 0 pitch 1 loud 10 worth 99;noise clock 0 in 0 pitch 1 loud 9 worth 50");
        CHECK.will(x, "to 1 part 1", 1);
        CHECK.due("both sound", 2, x.hours(1));
        CHECK.due("one that is heard just so is paid", 99, x.count(11));
        CHECK.due("to one who need not hear it", 99, x.heir(1, 2));
        CHECK.due("not to the one who hears", 0, x.heir(0, 2));
        x.oil(0, 1);
        CHECK.due("both sound the next day", 2, x.hours(24));
        CHECK.due("what none hears is not paid", 99, x.count(11));
    }

    private static void soundedNone() {
        CHECK.sentence("SOUNDED: the latest HOURS in which it did (each NOISE: DAY times 24 and HOUR; none).");
        NoiseHouse x = new NoiseHouse();
        CHECK.house(x, "room 0;noise clock 0 5 in 0 pitch 1 loud 1 worth 1;noise foot in 0 pitch 1 loud 1 worth 1");
        CHECK.due("none at first", -1, x.noise(0, 7));
        x.hours(1);
        CHECK.due("hour 0 of day 0", 0, x.noise(0, 7));
        CHECK.due("none still", -1, x.noise(1, 7));
        x.hours(240);
        CHECK.due("day 10, hour 0", 240, x.noise(0, 7));
        x.make(1);
        x.hours(5);
        CHECK.due("day 10, hour 5", 245, x.noise(0, 7));
        CHECK.due("day 10, hour 1", 241, x.noise(1, 7));
    }

    private static void nextDay() {
        CHECK.sentence("Then HOUR is 1 more (behind 23 it is 0 of the next DAY).");
        NoiseHouse x = new NoiseHouse();
        x.hours(23);
        CHECK.due("hour 23", 23, x.count(7));
        CHECK.due("of day 0", 0, x.count(6));
        x.hours(1);
        CHECK.due("hour 0", 0, x.count(7));
        CHECK.due("of day 1", 1, x.count(6));
        x.hours(240);
        CHECK.due("hour 0 again", 0, x.count(7));
        CHECK.due("of day 11", 11, x.count(6));
        for (int more = 0; more < 480; more++) {
            x.hours(240);
        }
        CHECK.due("day of the longest run", 4811, x.count(6));
    }

    private static void stormOfTheLatestHour() {
        CHECK.sentence("storm: there was one in the latest HOUR (while an HOUR goes by: there is one)");
        NoiseHouse x = new NoiseHouse();
        CHECK.house(x, "room 0;heir in 0 ear 1;stormy 100;noise clock 0 1 in 0 pitch 1 loud 9 worth 7");
        CHECK.will(x, "to 0 part 1 if storm", 1);
        CHECK.due("ahead of any hour", 0, x.title(0, 0));
        x.hours(1);
        CHECK.due("behind the storm", 1, x.title(0, 0));
        CHECK.due("paid while there was one", 7, x.heir(0, 2));
        CHECK.house(x, "stormy 0");
        CHECK.due("no text ends it", 1, x.title(0, 0));
        x.hours(1);
        CHECK.due("none in the latest hour", 0, x.title(0, 0));
        CHECK.due("not paid while there is none", 7, x.heir(0, 2));
        CHECK.due("but the chest is", 7, x.count(10));
    }

    private static void books() {
        CHECK.sentence("BOOKS: COINS of all, and THE CHEST, are PAID.");
        NoiseHouse x = new NoiseHouse();
        CHECK.house(x, "room 0;" + "heir in 0 ear 1;".repeat(6) + "stormy 40;noise beast 50 in 0 pitch 1 loud 9 worth 99;"
            + "noise weather in 0 pitch 2 loud 9 worth 0;noise clock 0 5 6 7 in 0 pitch 3 loud 9 worth 97;noise beast 30 in 0 pitch 4 loud 1 worth 13");
        CHECK.will(x, "to 0 part 7 if storm;to 1 part 11 if hour < 12;to 2 part 13;bar 2 if pitch > 3;to 3 part 999 if hour > 22;to 5 part 1 if beast and storm", 6);
        for (int run = 0; run < 20; run++) {
            x.hours(1 + run * 7);
            int sum = x.count(10);
            for (int heir = 0; heir < 6; heir++) {
                sum += x.heir(heir, 2);
            }
            CHECK.due("the books", x.count(11), sum);
        }
        CHECK.due("the chest is in them", true, x.count(10) > 0 && x.count(11) > x.count(10));
    }

    private static void oilAtMost() {
        CHECK.sentence("OIL more for a NOISE (99 at most); a CARPET is laid.");
        NoiseHouse x = new NoiseHouse();
        CHECK.house(x, "room 0;noise foot in 0 pitch 1 loud 99 worth 1;noise foot in 0 pitch 1 loud 1 worth 1");
        CHECK.due("98", 98, x.oil(0, 98));
        CHECK.due("at", 1, x.at(0, 0));
        CHECK.due("99", 99, x.oil(0, 1));
        CHECK.due("99 still", 99, x.oil(0, 1));
        CHECK.due("at", 0, x.at(0, 0));
        CHECK.due("more than it is loud", 99, x.oil(1, 99));
        CHECK.due("99 and 99", 99, x.oil(1, 99));
        CHECK.due("all five are acts", 5, x.count(13));
        x.undo();
        x.undo();
        CHECK.due("none again", 0, x.noise(1, 5));
        x.undo();
        CHECK.due("the one that changed nothing", 99, x.noise(0, 5));
        x.undo();
        CHECK.due("98 again", 98, x.noise(0, 5));
    }

    private static void farOff() {
        CHECK.sentence("WEIGHT of a NOISE: (10 less how far PITCH is off, 0 at least) times what it is AT the ROOM");
        NoiseHouse x = new NoiseHouse();
        CHECK.house(x, "room 0;noise foot in 0 pitch 50 loud 7 worth 1");
        for (int pitch : new int[] {41, 50, 59}) {
            CHECK.due("9 off at most: " + pitch, 10000, x.odds(0, 0, pitch));
            CHECK.due("the likeliest of " + pitch, 0, x.likeliest(0, pitch));
        }
        for (int pitch : new int[] {0, 39, 40, 60, 61, 99}) {
            CHECK.due("10 off and more: " + pitch, 0, x.odds(0, 0, pitch));
            CHECK.due("none by " + pitch, -1, x.likeliest(0, pitch));
        }
        CHECK.house(x, "noise foot in 0 pitch 90 loud 7 worth 1;noise foot in 0 pitch 99 loud 7 worth 1;noise foot in 0 pitch 0 loud 7 worth 1");
        CHECK.due("one pitch 10, the other 1", 10000 * 10 / 11, x.odds(1, 0, 90));
        CHECK.due("one pitch 1, the other 10", 10000 * 10 / 11, x.odds(2, 0, 99));
        CHECK.due("pitches do not go round", 10000, x.odds(3, 0, 0));
        x.oil(0, 6);
        CHECK.due("the least weight there is", 10000, x.odds(0, 0, 41));
        CHECK.due("the likeliest by it", 0, x.likeliest(0, 59));
    }

    private static void odds() {
        CHECK.sentence("ODDS: WEIGHT by all, in ten-thousandths, rounded down (0, if all are 0);");
        NoiseHouse x = new NoiseHouse();
        String noise = "noise foot in 0 pitch 5 loud 99 worth 1";
        CHECK.house(x, "room 0;room 0;" + (noise + ";").repeat(5) + noise);
        CHECK.house(x, (noise + ";").repeat(5) + noise);
        CHECK.due("twelve alike", 833, x.odds(11, 0, 5));
        CHECK.due("without a way all are 0", 0, x.odds(0, 1, 5));
        for (int other = 1; other < 12; other++) {
            x.oil(other, 98);
        }
        CHECK.due("99 by 110", 9000, x.odds(0, 0, 5));
        CHECK.due("1 by 110", 90, x.odds(1, 0, 5));
        for (int other = 0; other < 12; other++) {
            x.oil(other, 99);
        }
        CHECK.due("all oiled: 0", 0, x.odds(0, 0, 5));
        CHECK.due("none is the likeliest", -1, x.likeliest(0, 5));
    }

    private static void likeliest() {
        CHECK.sentence("LIKELIEST: the greatest, of several the least; none, if all are 0.");
        NoiseHouse x = new NoiseHouse();
        CHECK.due("a room, no noise", true, rooms(x) == 1 && x.likeliest(0, 0) == -1);
        CHECK.house(x, "noise foot in 0 pitch 10 loud 9 worth 1;noise foot in 0 pitch 11 loud 10 worth 1;noise foot in 0 pitch 10 loud 9 worth 1");
        CHECK.due("90 and 90: the least", 0, x.likeliest(0, 10));
        CHECK.due("81 and 100", 1, x.likeliest(0, 11));
        x.oil(1, 1);
        CHECK.due("90, 81, 90", 0, x.likeliest(0, 10));
        x.oil(0, 1);
        CHECK.due("80, 81, 90: the greatest", 2, x.likeliest(0, 10));
        CHECK.due("9 off: 8, 0 and 9", 2, x.likeliest(0, 1));
        CHECK.due("10 off: none", -1, x.likeliest(0, 0));
    }

    private static int rooms(NoiseHouse x) {
        CHECK.house(x, "room 0");
        return x.count(0);
    }
}
