/** Each sentence of the document's Terms that names a bound of a text, or of what a text tells, with a test of its own. */
public final class TextBoundsTest {
    private static final Check CHECK = new Check("TextBoundsTest");
    private static final String NOISE = "noise foot in 0 pitch 1 loud 1 worth 1";

    public static void main(String[] args) {
        rooms();
        doors();
        heirs();
        noises();
        noiseNumbers();
        clockHours();
        beastChance();
        rates();
        atFirst();
        stormy();
        houseTexts();
        houseLines();
        roomsByThen();
        doorOfTheSame();
        laidByText();
        willLines();
        willInPlace();
        willHeirs();
        digits();
        titles();
        comparisons();
        sums();
        hearsTheLeast();
        words();
        blanks();
        emptyTexts();
        depth();
        firstWrongNumber();
        firstWrongWord();
        firstWrongTooMany();
        firstWrongEnd();
        nothingStays();
        CHECK.finish();
    }

    /** A house with two ROOMS, for texts behind it. */
    private static NoiseHouse twoRooms() {
        NoiseHouse x = new NoiseHouse();
        CHECK.house(x, "room 0;room 0");
        return x;
    }

    private static void rooms() {
        CHECK.sentence("ROOMS (at most 10, numbered from 0 on): CARPET 0 to 20.");
        NoiseHouse x = new NoiseHouse();
        CHECK.outOfBounds("room(0, 0) ahead of any", () -> x.room(0, 0));
        CHECK.house(x, "room 0;room 20;" + "room 1;".repeat(6) + "room 8");
        CHECK.due("nine rooms", 9, x.count(0));
        CHECK.outOfBounds("room(9, 0) of nine", () -> x.room(9, 0));
        CHECK.wrongHouse(x, "room 5;room 6", 7);
        CHECK.due("nine still", 9, x.count(0));
        CHECK.house(x, "room 9");
        CHECK.due("ten rooms", 10, x.count(0));
        CHECK.due("the first is number 0", 0, x.room(0, 0));
        CHECK.due("the greatest carpet", 20, x.room(1, 0));
        CHECK.due("the last is number 9", 9, x.room(9, 0));
        CHECK.outOfBounds("room(10, 0) of ten", () -> x.room(10, 0));
        CHECK.wrongHouse(x, "room 5", 0);
        CHECK.wrongHouse(x, "stormy 1; room 5", 10);
        CHECK.wrongHouse(new NoiseHouse(), "room 21", 5);
    }

    private static void doors() {
        CHECK.sentence("DOORS (at most 14): between two ROOMS, HOLD 1 to 30 (more than one between the same two: each is a way).");
        NoiseHouse x = twoRooms();
        CHECK.wrongHouse(x, "door 0 1 0", 9);
        CHECK.wrongHouse(x, "door 0 1 31", 9);
        CHECK.house(x, "door 0 1 30");
        CHECK.due("by the one door", 30, x.cost(0, 1));
        CHECK.house(x, "door 0 1 9;door 1 0 8;" + "door 0 1 20;".repeat(9) + "door 1 0 30");
        CHECK.due("thirteen doors", 13, x.count(1));
        CHECK.due("by the least of them", 8, x.cost(0, 1));
        CHECK.wrongHouse(x, "door 0 1 1;door 0 1 2", 11);
        CHECK.due("thirteen still", 13, x.count(1));
        CHECK.due("by the least of them still", 8, x.cost(0, 1));
        CHECK.house(x, "door 0 1 1");
        CHECK.due("fourteen doors", 14, x.count(1));
        CHECK.due("each is one of a room's", 14, x.room(0, 1));
        CHECK.due("each is one of the other's", 14, x.room(1, 1));
        CHECK.due("by the least hold", 1, x.cost(1, 0));
        CHECK.wrongHouse(x, "door 0 1 1", 0);
    }

    private static void heirs() {
        CHECK.sentence("HEIRS (at most 6, numbered from 0 on): a ROOM in which one sits, EAR 1 to 50, COINS (0 at first).");
        NoiseHouse x = twoRooms();
        CHECK.outOfBounds("heir(0, 0) ahead of any", () -> x.heir(0, 0));
        CHECK.wrongHouse(x, "heir in 0 ear 0", 14);
        CHECK.wrongHouse(x, "heir in 0 ear 51", 14);
        CHECK.house(x, "heir in 0 ear 1;heir in 1 ear 50;heir in 0 ear 2;heir in 0 ear 3;heir in 1 ear 4");
        CHECK.outOfBounds("heir(5, 0) of five", () -> x.heir(5, 0));
        CHECK.wrongHouse(x, "heir in 0 ear 7;heir in 0 ear 8", 16);
        CHECK.due("five still", 5, x.count(2));
        CHECK.house(x, "heir in 1 ear 6");
        CHECK.due("six heirs", 6, x.count(2));
        int[] rooms = {0, 1, 0, 0, 1, 1};
        int[] ears = {1, 50, 2, 3, 4, 6};
        for (int heir = 0; heir < 6; heir++) {
            CHECK.due("room of " + heir, rooms[heir], x.heir(heir, 0));
            CHECK.due("ear of " + heir, ears[heir], x.heir(heir, 1));
            CHECK.due("coins of " + heir + " at first", 0, x.heir(heir, 2));
        }
        CHECK.outOfBounds("heir(6, 0) of six", () -> x.heir(6, 0));
        CHECK.wrongHouse(x, "heir in 0 ear 1", 0);
    }

    private static void noises() {
        CHECK.sentence("NOISES (at most 12, numbered from 0 on): a KIND, a ROOM, PITCH 0 to 99, LOUD 1 to 99, WORTH 0 to 99, OIL 0 to 99 (0 at first)");
        NoiseHouse x = twoRooms();
        CHECK.outOfBounds("noise(0, 0) ahead of any", () -> x.noise(0, 0));
        CHECK.house(x, (NOISE + ";").repeat(5) + NOISE);
        CHECK.house(x, (NOISE + ";").repeat(4) + NOISE);
        CHECK.due("eleven noises", 11, x.count(3));
        CHECK.outOfBounds("noise(11, 0) of eleven", () -> x.noise(11, 0));
        CHECK.wrongHouse(x, NOISE + ";" + NOISE, NOISE.length() + 1);
        CHECK.due("eleven still", 11, x.count(3));
        CHECK.house(x, "noise weather in 1 pitch 99 loud 99 worth 99");
        CHECK.due("twelve noises", 12, x.count(3));
        int[] first = {3, 0, 1, 1, 1, 0, 0, -1, 0};
        int[] last = {1, 1, 99, 99, 99, 0, 0, -1, 0};
        for (int what = 0; what < 9; what++) {
            CHECK.due("noise(0, " + what + ")", first[what], x.noise(0, what));
            CHECK.due("noise(11, " + what + ")", last[what], x.noise(11, what));
        }
        CHECK.outOfBounds("noise(12, 0) of twelve", () -> x.noise(12, 0));
        CHECK.wrongHouse(x, NOISE, 0);
    }

    private static void noiseNumbers() {
        CHECK.sentence("PITCH 0 to 99, LOUD 1 to 99, WORTH 0 to 99");
        NoiseHouse x = twoRooms();
        CHECK.house(x, "noise foot in 0 pitch 0 loud 1 worth 0;noise foot in 0 pitch 99 loud 99 worth 99");
        int[] due = {0, 1, 0, 99, 99, 99};
        for (int what = 2; what < 5; what++) {
            CHECK.due("the least, what " + what, due[what - 2], x.noise(0, what));
            CHECK.due("the greatest, what " + what, due[what + 1], x.noise(1, what));
        }
        CHECK.wrongHouse(x, "noise foot in 0 pitch 100 loud 1 worth 0", 22);
        CHECK.wrongHouse(x, "noise foot in 0 pitch 0 loud 0 worth 0", 29);
        CHECK.wrongHouse(x, "noise foot in 0 pitch 0 loud 100 worth 0", 29);
        CHECK.wrongHouse(x, "noise foot in 0 pitch 0 loud 1 worth 100", 37);
        CHECK.due("two noises", 2, x.count(3));
    }

    private static void clockHours() {
        CHECK.sentence("KIND 0 clock: hours (0 to 23) at which it sounds, as bits");
        NoiseHouse x = twoRooms();
        StringBuilder all = new StringBuilder("noise clock");
        for (int hour = 0; hour < 24; hour++) {
            all.append(' ').append(hour);
        }
        CHECK.house(x, "noise clock 0 in 0 pitch 1 loud 1 worth 1;noise clock 23 in 0 pitch 1 loud 1 worth 1;"
            + "noise clock 7 7 in 0 pitch 1 loud 1 worth 1");
        CHECK.house(x, "noise clock 23 0 in 0 pitch 1 loud 1 worth 1");
        CHECK.due("hour 0 behind another", 1 | 1 << 23, x.noise(3, 6));
        CHECK.house(x, all + " in 0 pitch 1 loud 1 worth 1");
        CHECK.due("hour 0", 1, x.noise(0, 6));
        CHECK.due("hour 23", 1 << 23, x.noise(1, 6));
        CHECK.due("an hour told twice", 1 << 7, x.noise(2, 6));
        CHECK.due("all hours", (1 << 24) - 1, x.noise(4, 6));
        CHECK.wrongHouse(x, "noise clock 24 in 0 pitch 1 loud 1 worth 1", 12);
        CHECK.wrongHouse(x, "noise clock 0 23 24 in 0 pitch 1 loud 1 worth 1", 17);
        CHECK.wrongHouse(x, "noise clock in 0 pitch 1 loud 1 worth 1", 12);
    }

    private static void beastChance() {
        CHECK.sentence("2 beast: CHANCE 0 to 100");
        NoiseHouse x = twoRooms();
        CHECK.house(x, "noise beast 0 in 0 pitch 1 loud 1 worth 1;noise beast 100 in 0 pitch 1 loud 1 worth 1");
        CHECK.due("the least chance", 0, x.noise(0, 6));
        CHECK.due("the greatest chance", 100, x.noise(1, 6));
        CHECK.wrongHouse(x, "noise beast 101 in 0 pitch 1 loud 1 worth 1", 12);
        CHECK.wrongHouse(x, "noise beast in 0 pitch 1 loud 1 worth 1", 12);
        CHECK.wrongHouse(x, "noise beast 1 1 in 0 pitch 1 loud 1 worth 1", 14);
        CHECK.wrongHouse(x, "noise weather 1 in 0 pitch 1 loud 1 worth 1", 14);
        CHECK.wrongHouse(x, "noise foot 1 in 0 pitch 1 loud 1 worth 1", 11);
    }

    private static void rates() {
        CHECK.sentence("6 RATE (0 of weather and foot), 7 the latest HOUR in which it SOUNDED (NONE), 8 how often so far.");
        NoiseHouse x = twoRooms();
        CHECK.house(x, "stormy 100;noise weather in 0 pitch 1 loud 1 worth 1;noise foot in 0 pitch 1 loud 1 worth 1;"
            + "noise beast 0 in 0 pitch 1 loud 1 worth 1;noise clock 1 in 0 pitch 1 loud 1 worth 1");
        int[] due = {0, 0, 0, 2};
        for (int noise = 0; noise < 4; noise++) {
            CHECK.due("rate of " + noise, due[noise], x.noise(noise, 6));
            CHECK.due("none yet of " + noise, -1, x.noise(noise, 7));
            CHECK.due("not once so far of " + noise, 0, x.noise(noise, 8));
        }
        x.make(1);
        x.hours(1);
        int[] latest = {0, 0, -1, -1};
        for (int noise = 0; noise < 4; noise++) {
            CHECK.due("rate of " + noise + " behind an hour", due[noise], x.noise(noise, 6));
            CHECK.due("the latest of " + noise, latest[noise], x.noise(noise, 7));
            CHECK.due("how often " + noise, latest[noise] + 1, x.noise(noise, 8));
        }
    }

    private static void atFirst() {
        CHECK.sentence("DAY and HOUR: 0 at first. STORMY: CHANCE of a STORM each hour, 0 to 100 (0 at first). "
            + "CHEST: coins that nobody has a title to (0 at first). PAID: what was paid in all, to THE CHEST, too (0 at first).");
        NoiseHouse x = new NoiseHouse();
        for (int what = 6; what <= 12; what++) {
            CHECK.due("count(" + what + ") at first", 0, x.count(what));
        }
    }

    private static void stormy() {
        CHECK.sentence("STORMY: CHANCE of a STORM each hour, 0 to 100 (0 at first).");
        NoiseHouse x = new NoiseHouse();
        CHECK.house(x, "stormy 100");
        CHECK.due("the greatest", 100, x.count(8));
        CHECK.wrongHouse(x, "stormy 101", 7);
        CHECK.due("still", 100, x.count(8));
        CHECK.house(x, "stormy 0");
        CHECK.due("the least", 0, x.count(8));
        CHECK.house(x, "stormy 5;stormy 6");
        CHECK.due("the latter of two", 6, x.count(8));
    }

    private static void houseTexts() {
        CHECK.sentence("THE HOUSE is told in texts (at most 10, one behind another)");
        NoiseHouse x = new NoiseHouse();
        for (int text = 1; text <= 10; text++) {
            CHECK.wrongHouse(x, "stormy", 6);
            Check.write(x, "room " + text);
            CHECK.due("text " + text, text, x.house());
        }
        CHECK.due("one behind another", 10, x.count(0));
        Check.write(x, "stormy 1");
        CHECK.refused("an eleventh", UnsupportedOperationException.class, x::house);
        CHECK.due("ten texts", 10, x.count(4));
        CHECK.due("stormy", 0, x.count(8));
        CHECK.will(x, "bar 0", 1);
        CHECK.will(x, "bar 1;bar 2", 2);
        CHECK.due("wills are no texts of the house", 10, x.count(4));
    }

    private static void houseLines() {
        CHECK.sentence("LINE { ; LINE }, at most 14: room N | door R R N");
        NoiseHouse x = new NoiseHouse();
        CHECK.house(x, "stormy 1;".repeat(13) + "stormy 14");
        CHECK.due("fourteen lines", 14, x.count(8));
        CHECK.wrongHouse(x, "stormy 2;".repeat(14) + "stormy 15", 126);
        CHECK.due("fifteen are wrong", 14, x.count(8));
        CHECK.house(x, "stormy 3");
        CHECK.due("one line", 3, x.count(8));
    }

    private static void roomsByThen() {
        CHECK.sentence("R: a ROOM that there is by then");
        NoiseHouse x = new NoiseHouse();
        CHECK.wrongHouse(x, "heir in 0 ear 1", 8);
        CHECK.wrongHouse(x, "heir in 0 ear 1;room 0", 8);
        CHECK.wrongHouse(x, "carpet 0 1", 7);
        CHECK.wrongHouse(x, "door 0 1 1", 5);
        CHECK.wrongHouse(x, "noise foot in 0 pitch 1 loud 1 worth 1", 14);
        CHECK.house(x, "room 0;heir in 0 ear 1;carpet 0 2;noise foot in 0 pitch 1 loud 9 worth 1");
        CHECK.wrongHouse(x, "heir in 1 ear 1", 8);
        CHECK.wrongHouse(x, "carpet 1 1", 7);
        CHECK.wrongHouse(x, "door 1 0 1", 5);
        CHECK.wrongHouse(x, "door 0 1 1", 7);
        CHECK.wrongHouse(x, "door 0 1 1;room 0", 7);
        CHECK.wrongHouse(x, "noise foot in 1 pitch 1 loud 1 worth 1", 14);
        CHECK.house(x, "room 0;door 0 1 1;heir in 1 ear 1;carpet 1 3;noise foot in 1 pitch 1 loud 9 worth 1");
        CHECK.due("the room of the text itself", 1, x.heir(1, 0));
        CHECK.due("its carpet", 3, x.room(1, 0));
    }

    private static void doorOfTheSame() {
        CHECK.sentence("(the two of a door not the same: else the latter is wrong)");
        NoiseHouse x = twoRooms();
        CHECK.wrongHouse(x, "door 0 0 1", 7);
        CHECK.wrongHouse(x, "door 1 1 1", 7);
        CHECK.wrongHouse(x, "door 1 001 1", 7);
        CHECK.wrongHouse(x, "door 01 1 99", 8);
        CHECK.due("no door", 0, x.count(1));
        CHECK.house(x, "door 1 0 1");
        CHECK.due("a door", 1, x.count(1));
    }

    private static void laidByText() {
        CHECK.sentence("stormy N | carpet R N.");
        NoiseHouse x = twoRooms();
        CHECK.house(x, "door 0 1 1;carpet 1 20");
        CHECK.due("the greatest carpet", 20, x.room(1, 0));
        CHECK.due("the cost by it", 21, x.cost(0, 1));
        CHECK.wrongHouse(x, "carpet 1 21", 9);
        CHECK.due("still", 20, x.room(1, 0));
        CHECK.house(x, "carpet 1 0");
        CHECK.due("none", 0, x.room(1, 0));
        CHECK.due("the cost without", 1, x.cost(0, 1));
        CHECK.due("a text is no act", 0, x.count(13));
    }

    private static void willLines() {
        CHECK.sentence("LINE { ; LINE }, at most 12: to H part N [ if C ] | bar H [ if C ].");
        NoiseHouse x = new NoiseHouse();
        CHECK.will(x, "bar 1;".repeat(11) + "bar 1", 12);
        CHECK.wrongWill(x, "bar 1;".repeat(12) + "bar 1", 72);
        CHECK.wrongWill(x, "to 1 part 1;".repeat(12) + "  to 1 part 1", 146);
        CHECK.due("twelve still", 12, x.count(5));
        CHECK.will(x, "to 1 part 1", 1);
        CHECK.due("one", 1, x.count(5));
    }

    private static void willInPlace() {
        CHECK.sentence("THE WILL (a text, in place of the one before)");
        NoiseHouse x = new NoiseHouse();
        CHECK.house(x, "room 0;heir in 0 ear 1;" + NOISE);
        CHECK.due("none at first", -1, x.count(5));
        CHECK.wrongWill(x, "to 0 part", 9);
        CHECK.due("none behind a wrong one", -1, x.count(5));
        CHECK.will(x, "to 0 part 3;to 0 part 4 if foot", 2);
        CHECK.due("title", 7, x.title(0, 0));
        CHECK.will(x, "to 0 part 5 if foot", 1);
        CHECK.due("title by the latter alone", 5, x.title(0, 0));
        CHECK.wrongWill(x, "to 0 part 9;to 0 part 9 if", 26);
        CHECK.due("title behind a wrong one", 5, x.title(0, 0));
        CHECK.due("lines behind a wrong one", 1, x.count(5));
        CHECK.will(x, "", 0);
        CHECK.due("title by an empty one", 0, x.title(0, 0));
    }

    private static void willHeirs() {
        CHECK.sentence("H: an HEIR (0 to 5, also one who comes later).");
        NoiseHouse x = new NoiseHouse();
        CHECK.will(x, "to 0 part 1;to 5 part 2;bar 4", 3);
        CHECK.wrongWill(x, "to 6 part 1", 3);
        CHECK.wrongWill(x, "bar 6", 4);
        CHECK.wrongWill(x, "to in part 1", 3);
        CHECK.house(x, "room 0;" + NOISE + ";" + "heir in 0 ear 9;".repeat(4) + "heir in 0 ear 9");
        CHECK.outOfBounds("title(5, 0)", () -> x.title(5, 0));
        CHECK.due("one who is not there gets nothing", 5, x.part(0, 0, 5));
        CHECK.house(x, "heir in 0 ear 9");
        CHECK.due("title of the first", 1, x.title(0, 0));
        CHECK.due("title of the last", 2, x.title(5, 0));
        CHECK.due("part of the last", 4, x.part(5, 0, 5));
    }

    private static void digits() {
        CHECK.sentence("All numbers are of 1 to 3 digits (N of part 0 to 999).");
        NoiseHouse x = new NoiseHouse();
        CHECK.house(x, "room 7;room 07;room 007;heir in 000 ear 09;noise clock 023 in 0 pitch 009 loud 01 worth 000");
        CHECK.due("one digit", 7, x.room(0, 0));
        CHECK.due("two digits", 7, x.room(1, 0));
        CHECK.due("three digits", 7, x.room(2, 0));
        CHECK.due("an hour of three digits", 1 << 23, x.noise(0, 6));
        CHECK.wrongHouse(x, "room 0007", 5);
        CHECK.wrongHouse(x, "room 4294967296", 5);
        CHECK.wrongHouse(x, "room 18446744073709551616", 5);
        CHECK.wrongHouse(x, "noise clock 0001 in 0 pitch 1 loud 1 worth 1", 12);
        CHECK.wrongHouse(x, "noise clock 1 0001 in 0 pitch 1 loud 1 worth 1", 14);
        CHECK.wrongHouse(x, "door 0000 1 1", 5);
        CHECK.wrongHouse(x, "door 0 0001 1", 7);
        CHECK.will(x, "to 000 part 999;to 000 part 000", 2);
        CHECK.due("the greatest part", 999, x.title(0, 0));
        CHECK.will(x, "to 0 part 0", 1);
        CHECK.due("the least part", 0, x.title(0, 0));
        CHECK.will(x, "to 0 part 1 if 999 + 999 > 998 + 999", 1);
        CHECK.due("the greatest numbers", 1, x.title(0, 0));
        CHECK.wrongWill(x, "to 0 part 1000", 10);
        CHECK.wrongWill(x, "to 0 part 0999", 10);
        CHECK.wrongWill(x, "to 0000 part 1", 3);
        CHECK.wrongWill(x, "bar 0 if 1000 > 1", 9);
        CHECK.wrongWill(x, "bar 0 if 1 > 1000", 13);
        CHECK.wrongWill(x, "bar 0 if 1 + 0001 > 1", 13);
    }

    private static void titles() {
        CHECK.sentence("the sum of N of all to LINES of that one that hold; 0, if a bar LINE of that one holds (0 without a text).");
        NoiseHouse x = new NoiseHouse();
        CHECK.house(x, "room 0;heir in 0 ear 1;heir in 0 ear 1;" + NOISE + ";noise weather in 0 pitch 1 loud 1 worth 1");
        CHECK.due("without a text", 0, x.title(0, 0));
        CHECK.will(x, "to 0 part 999;".repeat(11) + "to 0 part 999", 12);
        CHECK.due("the greatest sum", 11988, x.title(0, 0));
        CHECK.due("of another", 0, x.title(1, 0));
        CHECK.will(x, "bar 0 if foot;to 0 part 5;to 1 part 6;bar 1 if weather", 4);
        CHECK.due("a bar line ahead", 0, x.title(0, 0));
        CHECK.due("a bar line that does not hold", 5, x.title(0, 1));
        CHECK.due("a bar line of another", 6, x.title(1, 0));
        CHECK.due("a bar line behind", 0, x.title(1, 1));
        CHECK.will(x, "to 0 part 5 if weather", 1);
        CHECK.due("none that holds", 0, x.title(0, 0));
    }

    /** Whether the condition holds for HEIR 0 and this NOISE. */
    private static void holds(NoiseHouse x, int noise, String condition, boolean due) {
        CHECK.will(x, "to 0 part 1 if " + condition, 1);
        CHECK.due(condition + " of " + noise, due ? 1 : 0, x.title(0, noise));
    }

    private static NoiseHouse compared() {
        NoiseHouse x = new NoiseHouse();
        CHECK.house(x, "room 0;".repeat(9) + "room 0;heir in 0 ear 1");
        CHECK.house(x, "noise foot in 0 pitch 0 loud 1 worth 1;noise foot in 9 pitch 99 loud 99 worth 1");
        return x;
    }

    private static void comparisons() {
        CHECK.sentence("SUM < SUM | SUM > SUM.");
        NoiseHouse x = compared();
        holds(x, 0, "5 < 6", true);
        holds(x, 0, "6 < 6", false);
        holds(x, 0, "7 < 6", false);
        holds(x, 0, "7 > 6", true);
        holds(x, 0, "6 > 6", false);
        holds(x, 0, "5 > 6", false);
        holds(x, 0, "0 < 0", false);
        holds(x, 0, "0 > 0", false);
        holds(x, 0, "foot and 0 < 1", true);
        holds(x, 0, "foot and 1 > 0 and 0 < 1", true);
        holds(x, 0, "foot and 5 < 0", false);
        holds(x, 0, "999 > 998", true);
        holds(x, 0, "not 6 < 6 and not 6 > 6", true);
    }

    private static void sums() {
        CHECK.sentence("SUM: PART { + PART }; PART: NUMBER | pitch | loud | hour | room | noise | oil.");
        String most = "999" + "+999".repeat(80);
        NoiseHouse x = compared();
        holds(x, 0, most + "<1", false);
        holds(x, 0, "1 + 2 + 3 > 5", true);
        holds(x, 0, "1 + 2 + 3 > 6", false);
        holds(x, 0, "6 < 1 + 2 + 3", false);
        holds(x, 0, "pitch + room + noise + oil + hour < 1", true);
        holds(x, 0, "loud > 0 and loud < 2", true);
        holds(x, 1, "pitch > 98 and pitch < 100", true);
        holds(x, 1, "loud > 98 and loud < 100", true);
        holds(x, 1, "room > 8 and room < 10", true);
        holds(x, 1, "noise > 0 and noise < 2", true);
        x.oil(1, 99);
        holds(x, 1, "oil > 98 and oil < 100", true);
        holds(x, 1, "loud > 98", true);
        holds(x, 1, "99 < 1 + oil", true);
        holds(x, 1, "100 < 1 + oil", false);
        holds(x, 1, "foot and oil + oil > 197", true);
        holds(x, 1, "foot and oil + oil > 198", false);
        x.hours(23);
        holds(x, 1, "hour > 22 and hour < 24", true);
        x.hours(1);
        holds(x, 1, "hour < 1", true);
    }

    private static void hearsTheLeast() {
        CHECK.sentence("hears: that HEIR HEARS it.");
        NoiseHouse x = compared();
        holds(x, 0, "hears", true);
        holds(x, 1, "hears", false);
        holds(x, 0, "hears and foot", true);
        holds(x, 0, "not hears", false);
        holds(x, 1, "not hears and foot", true);
        x.oil(0, 1);
        holds(x, 0, "hears", false);
    }

    private static void words() {
        CHECK.sentence("Words are as long as a to z go on");
        NoiseHouse x = twoRooms();
        CHECK.house(x, "room0;room 1;door0 1 1;heir in0ear1;noise clock0 1in 0pitch0loud1worth0;stormy7;carpet0 3");
        CHECK.due("a word ends where a digit comes", 7, x.count(8));
        CHECK.wrongHouse(x, "roomroom 0", 0);
        CHECK.wrongHouse(x, "stormya 0", 0);
        CHECK.wrongHouse(x, "stormyz 0", 0);
        CHECK.wrongHouse(x, "storm 0", 0);
        CHECK.wrongHouse(x, "boom 0", 0);
        CHECK.wrongHouse(x, "rook 0", 0);
        CHECK.wrongHouse(x, "stormy`0", 6);
        CHECK.wrongHouse(x, "stormy{0", 6);
        CHECK.wrongHouse(x, "stormyA0", 6);
        CHECK.wrongHouse(x, "Stormy 0", 0);
        CHECK.wrongHouse(x, "stormy/0", 6);
        CHECK.wrongHouse(x, "stormy:0", 6);
        CHECK.wrongHouse(x, "stormy 0/", 8);
        CHECK.wrongHouse(x, "stormy 0:", 8);
        CHECK.wrongHouse(x, "stormy 1 0", 9);
        CHECK.wrongHouse(x, "heir inear 0", 5);
        CHECK.wrongWill(x, "to 0 part 1 ifclock", 12);
        CHECK.wrongWill(x, "to 0 part 1 if notclock", 15);
        CHECK.will(x, "to0part1if not(not clock)and(5>pitch)", 1);
    }

    private static void blanks() {
        CHECK.sentence("between all there may be blanks (32), also ahead and behind.");
        NoiseHouse x = new NoiseHouse();
        CHECK.house(x, "   room   5   ;   room   6   ");
        CHECK.due("two rooms", 2, x.count(0));
        CHECK.house(x, " ".repeat(394) + "room 7");
        CHECK.due("a text that ends where the TAPE is full", 7, x.room(2, 0));
        CHECK.house(x, "room 8" + " ".repeat(394));
        CHECK.due("blanks till the TAPE is full", 8, x.room(3, 0));
        CHECK.will(x, "  to  0  part  1  if  (  clock  and  1  +  1  <  3  )  ", 1);
        CHECK.wrongHouse(x, "room\u001f5", 4);
        CHECK.wrongHouse(x, "room!5", 4);
        CHECK.wrongHouse(x, "room\t5", 4);
        CHECK.wrongHouse(x, "room 5\n", 6);
        CHECK.wrongHouse(x, "room 5\0", 6);
        CHECK.wrongHouse(x, "room 5\u00a0", 6);
        CHECK.wrongHouse(x, "\u00a0room 5", 0);
        CHECK.wrongHouse(x, "ro om 5", 0);
    }

    private static void emptyTexts() {
        CHECK.sentence("A text that is empty, or blanks alone, has no LINE.");
        NoiseHouse x = twoRooms();
        x.carpet(0, 1);
        Check.write(x, "");
        CHECK.due("house() of none", 2, x.house());
        CHECK.due("fault()", -1, x.fault());
        Check.write(x, " ");
        CHECK.due("house() of a blank", 3, x.house());
        Check.write(x, " ".repeat(400));
        CHECK.due("house() of 400 blanks", 4, x.house());
        CHECK.due("fault()", -1, x.fault());
        CHECK.due("rooms", 2, x.count(0));
        CHECK.will(x, "bar 0", 1);
        CHECK.will(x, "", 0);
        CHECK.due("lines of it", 0, x.count(5));
        CHECK.will(x, "bar 0", 1);
        CHECK.will(x, " ".repeat(400), 0);
        CHECK.due("lines of blanks", 0, x.count(5));
        CHECK.wrongHouse(x, ";", 0);
        CHECK.wrongHouse(x, " ; ", 1);
        CHECK.wrongWill(x, ";", 0);
    }

    private static void depth() {
        CHECK.sentence("( and not within one another at most 6 deep.");
        NoiseHouse x = new NoiseHouse();
        CHECK.house(x, "room 0;heir in 0 ear 1;" + NOISE);
        CHECK.will(x, "to 0 part 1 if ((((((foot))))))", 1);
        CHECK.due("six (", 1, x.title(0, 0));
        CHECK.will(x, "to 0 part 1 if not not not not not not foot", 1);
        CHECK.due("six not", 1, x.title(0, 0));
        CHECK.will(x, "to 0 part 1 if not(not(not(clock)))", 1);
        CHECK.due("three of both", 1, x.title(0, 0));
        CHECK.wrongWill(x, "to 0 part 1 if (((((((foot)))))))", 21);
        CHECK.wrongWill(x, "to 0 part 1 if not not not not not not not foot", 39);
        CHECK.wrongWill(x, "to 0 part 1 if not(not(not((foot))))", 27);
        CHECK.wrongWill(x, "to 0 part 1 if (not(not(not not foot)))", 28);
        CHECK.wrongWill(x, "to 0 part 1 if ((((((foot and (foot)))))))", 30);
        CHECK.will(x, "to 0 part 1 if (foot)and(foot)and(foot)and(foot)and(foot)and(foot)and(foot)and(foot)", 1);
        CHECK.due("eight beside one another", 1, x.title(0, 0));
        CHECK.will(x, "to 0 part 1 if not clock and not clock and not clock and not clock and not clock and not clock and not clock", 1);
        CHECK.due("seven not beside one another", 1, x.title(0, 0));
        CHECK.will(x, "to 0 part 1 if ((((((foot)))))) and ((((((foot))))));to 0 part 2 if not not not not not not foot", 2);
        CHECK.due("six deep again and again", 3, x.title(0, 0));
        String deep = "beast or foot and (".repeat(6) + "beast or foot and ";
        CHECK.will(x, "to 0 part 1 if " + deep + "hour + 1 + 1 < 1 + 1 + 1" + ")".repeat(6), 1);
        CHECK.due("the most that waits", 1, x.title(0, 0));
        CHECK.will(x, "to 0 part 1 if " + deep + "hour + 1 + 1 > 1 + 1 + 1" + ")".repeat(6), 1);
        CHECK.due("the most that waits, in vain", 0, x.title(0, 0));
        CHECK.will(x, "to 0 part 1 if not foot;to 0 part 2 if not not foot;to 0 part 4 if not not not clock", 3);
        CHECK.due("one, two, three", 6, x.title(0, 0));
    }

    private static void firstWrongNumber() {
        CHECK.sentence("the begin of the first thing that cannot stand there (a number of more digits, or out of its bounds, or that tells none that is there, or the same;");
        NoiseHouse x = twoRooms();
        CHECK.wrongHouse(x, "stormy   0001;rug", 9);
        CHECK.wrongHouse(x, "stormy   101;rug", 9);
        CHECK.wrongHouse(x, "carpet   2 99;rug", 9);
        CHECK.wrongHouse(x, "door 1   1 99;rug", 9);
        CHECK.wrongHouse(x, "door 9 9 99", 5);
        CHECK.wrongHouse(x, "5", 0);
        CHECK.wrongHouse(x, "room room", 5);
        CHECK.wrongHouse(x, "room ;", 5);
        CHECK.wrongWill(x, "to   6 part 1000", 5);
        CHECK.wrongWill(x, "to 0 part   1000 rug", 12);
    }

    private static void firstWrongWord() {
        CHECK.sentence("a word that is none; the ( or not that is a 7th one deep;");
        NoiseHouse x = twoRooms();
        CHECK.wrongHouse(x, "stormy 1;  rug 1;rug 2", 11);
        CHECK.wrongHouse(x, "heir rug 1", 5);
        CHECK.wrongHouse(x, "noise   rug", 8);
        CHECK.wrongWill(x, "bar 0;  rug 1", 8);
        CHECK.wrongWill(x, "bar 0 if   rug", 11);
        CHECK.wrongWill(x, "bar 0 if clock   rug", 17);
        CHECK.wrongWill(x, "bar 0 if ( ( ( ( ( (   ( clock ) ) ) ) ) ) )", 23);
        CHECK.wrongWill(x, "bar 0 if ((((((  not rug))))))", 17);
        CHECK.wrongWill(x, "bar 0 if ((((((rug))))))", 15);
    }

    private static void firstWrongTooMany() {
        CHECK.sentence("of a LINE too many, of a ROOM, DOOR, HEIR, NOISE too many, the first word)");
        NoiseHouse x = new NoiseHouse();
        CHECK.wrongHouse(x, "stormy 1;".repeat(14) + "   stormy 101", 129);
        CHECK.wrongWill(x, "bar 0;".repeat(12) + "   bar 9", 75);
        CHECK.house(x, "room 0;".repeat(9) + "room 0");
        CHECK.house(x, "door 0 1 1;".repeat(13) + "door 0 1 1");
        CHECK.house(x, "heir in 0 ear 1;".repeat(5) + "heir in 0 ear 1");
        CHECK.house(x, (NOISE + ";").repeat(5) + NOISE);
        CHECK.house(x, (NOISE + ";").repeat(5) + NOISE);
        CHECK.wrongHouse(x, "stormy 1;   room 99", 12);
        CHECK.wrongHouse(x, "stormy 1;   door 0 0 0", 12);
        CHECK.wrongHouse(x, "stormy 1;   heir rug", 12);
        CHECK.wrongHouse(x, "stormy 1;   noise", 12);
        CHECK.due("stormy", 0, x.count(8));
    }

    private static void firstWrongEnd() {
        CHECK.sentence("or the text's length, if more must come.");
        String noise = "noise clock 1 in 0 pitch 1 loud 1 worth";
        for (int cut : new int[] {5, 11, 13, 16, 18, 24, 26, 31, 33, 39}) {
            NoiseHouse x = twoRooms();
            CHECK.wrongHouse(x, noise.substring(0, cut), cut);
            CHECK.wrongHouse(x, noise.substring(0, cut) + "  ", cut + 2);
        }
        for (String text : new String[] {"room", "door", "door 0", "door 0 1", "heir", "heir in", "heir in 0", "heir in 0 ear",
            "stormy", "carpet", "carpet 0", "room 1;", "noise beast", "noise beast 1", "noise weather", "noise foot",
            "stormy 1;".repeat(14)}) {
            NoiseHouse x = twoRooms();
            CHECK.wrongHouse(x, text, text.length());
            CHECK.wrongHouse(x, text + " ", text.length() + 1);
        }
        for (String text : new String[] {"to", "to 0", "to 0 part", "bar", "bar 0;", "bar 0 if", "bar 0 if not", "bar 0 if (",
            "bar 0 if (clock", "bar 0 if clock and", "bar 0 if clock or", "bar 0 if 1", "bar 0 if 1 <", "bar 0 if 1 +",
            "bar 0 if 1 > 2 +", "bar 0 if ((clock)", "bar 0;".repeat(12)}) {
            NoiseHouse x = twoRooms();
            CHECK.wrongWill(x, text, text.length());
            CHECK.wrongWill(x, text + " ", text.length() + 1);
        }
        NoiseHouse x = twoRooms();
        CHECK.wrongHouse(x, " ".repeat(396) + "room", 400);
        Check.write(x, "room 12");
        x.end(6);
        CHECK.due("a text that is cut in a number", 2, x.house());
        CHECK.due("its carpet", 1, x.room(2, 0));
        Check.write(x, "room 0;room 0");
        x.end(7);
        CHECK.illegal("a text that is cut behind a ;", x::house);
        CHECK.due("its fault()", 7, x.fault());
    }

    private static void nothingStays() {
        CHECK.sentence("Of a wrong text nothing stays.");
        NoiseHouse x = twoRooms();
        CHECK.wrongHouse(x, "room 9;door 0 1 9;heir in 0 ear 9;" + NOISE + ";stormy 9;carpet 0 9;x", 93);
        int[] due = {2, 0, 0, 0, 1, -1, 0, 0, 0};
        for (int what = 0; what < due.length; what++) {
            CHECK.due("count(" + what + ")", due[what], x.count(what));
        }
        CHECK.due("carpet", 0, x.room(0, 0));
        CHECK.due("no way", -1, x.cost(0, 1));
        CHECK.house(x, "heir in 1 ear 5;noise weather in 1 pitch 2 loud 3 worth 4");
        CHECK.due("a new heir's room", 1, x.heir(0, 0));
        CHECK.due("a new noise's kind", 1, x.noise(0, 0));
        CHECK.due("a new noise's rate", 0, x.noise(0, 6));
        CHECK.wrongWill(x, "to 0 part 9;x", 12);
        CHECK.due("no will", -1, x.count(5));
        CHECK.due("title", 0, x.title(0, 0));
    }
}
