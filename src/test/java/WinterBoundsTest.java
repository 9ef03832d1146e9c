/** Each sentence from WINTER to THE IMAGE that names a bound, with a test of its own. */
public final class WinterBoundsTest {
    private static final Check CHECK = new Check("WinterBoundsTest");
    private static final int CLOCK = 0;
    private static final String ALL_HOURS = "0 1 2 3 4 5 6 7 8 9 10 11 12 13 14 15 16 17 18 19 20 21 22 23";

    public static void main(String[] args) {
        winterDays();
        winterKinds();
        dueOfNone();
        quietTarget();
        quietAll();
        quietTies();
        suspectsAll();
        suspectsDoors();
        suspectsOfForty();
        ghostRooms();
        ghostLoud();
        ghostFirst();
        breach();
        silenceAbove();
        silenceSteps();
        silenceRounds();
        silenceTooLong();
        ears();
        seatTies();
        seatRounded();
        seatOfADay();
        value();
        sale();
        twelveActs();
        undoneAll();
        forgotten();
        image();
        CHECK.finish();
    }

    private static void winterDays() {
        CHECK.sentence("WINTER of a NOISE for N DAYS (1 to 200): hundredths of soundings that are due");
        NoiseHouse x = new NoiseHouse();
        CHECK.house(x, "room 0;heir in 0 ear 1;noise clock 0 in 0 pitch 1 loud 9 worth 1");
        CHECK.due("1 day", 100, x.due(0, 1));
        CHECK.due("200 days", 20000, x.due(0, 200));
        CHECK.illegal("0 days", () -> x.due(0, 0));
        CHECK.illegal("201 days", () -> x.due(0, 201));
        CHECK.due("quiet of 1 day", 1, x.quiet(0, 0, 1));
        CHECK.due("quiet of 200 days", 1, x.quiet(0, 0, 200));
        CHECK.illegal("quiet of 0 days", () -> x.quiet(0, 0, 0));
        CHECK.illegal("quiet of 201 days", () -> x.quiet(0, 0, 201));
        CHECK.due("silence of 1 day", 100, x.silence(0, 1, 1, false));
        CHECK.due("silence of 200 days", 200, x.silence(0, 200, 100, false));
        CHECK.illegal("silence of 0 days", () -> x.silence(0, 0, 1, false));
        CHECK.illegal("silence of 201 days", () -> x.silence(0, 201, 1, false));
    }

    private static void winterKinds() {
        CHECK.sentence("clock: 100 for each hour of it each DAY; weather: STORMY each hour; beast: CHANCE each hour; foot: 0.");
        NoiseHouse x = new NoiseHouse();
        CHECK.house(x, "room 0;heir in 0 ear 1;noise clock " + ALL_HOURS + " in 0 pitch 1 loud 9 worth 99;noise clock 23 23 in 0 pitch 1 loud 9 worth 99;"
            + "noise weather in 0 pitch 1 loud 9 worth 99;noise beast 0 in 0 pitch 1 loud 9 worth 99;noise beast 100 in 0 pitch 1 loud 9 worth 99");
        CHECK.house(x, "noise foot in 0 pitch 1 loud 9 worth 99;noise beast 100 in 0 pitch 1 loud 9 worth 0");
        CHECK.due("all hours", 2400L * 200 * 99, x.due(0, 200));
        CHECK.due("an hour told twice", 9900, x.due(1, 1));
        CHECK.due("never stormy", 0, x.due(2, 200));
        CHECK.due("a beast that never sounds", 0, x.due(3, 200));
        CHECK.due("a beast that always sounds", 2400L * 200 * 99, x.due(4, 200));
        CHECK.due("a foot", 0, x.due(5, 200));
        x.make(5);
        CHECK.due("a foot that was made to", 0, x.due(5, 200));
        CHECK.due("what is worth nothing", 0, x.due(6, 200));
        CHECK.house(x, "stormy 100");
        CHECK.due("always stormy", 2400L * 200 * 99, x.due(2, 200));
    }

    private static void dueOfNone() {
        CHECK.sentence("DUE: that times WORTH (long), if some HEIR HEARS it as all sit now; else 0.");
        NoiseHouse x = new NoiseHouse();
        CHECK.house(x, "room 0;room 0;noise clock 0 in 0 pitch 1 loud 9 worth 3");
        CHECK.due("without heirs", 0, x.due(0, 1));
        CHECK.house(x, "heir in 0 ear 10;heir in 1 ear 1");
        CHECK.due("one who does not just hear it, one without a way", 0, x.due(0, 1));
        CHECK.house(x, "heir in 0 ear 9");
        CHECK.due("one who just hears it", 300, x.due(0, 1));
        x.go(2, 1);
        CHECK.due("that one elsewhere", 0, x.due(0, 1));
        x.go(1, 0);
        CHECK.due("another there", 300, x.due(0, 1));
    }

    private static void quietTarget() {
        CHECK.sentence("QUIET for a ROOM, a TARGET (0 to 999) and N DAYS");
        String noise = "noise foot in 0 pitch 1 loud 99 worth 1";
        NoiseHouse x = new NoiseHouse();
        CHECK.house(x, "room 0;room 0;" + (noise + ";").repeat(5) + noise);
        CHECK.house(x, (noise + ";").repeat(5) + noise);
        // twelve of 99 are 1188: two stopped leave 990
        CHECK.due("999", 3, x.quiet(0, 999, 1));
        CHECK.due("just so loud", 3, x.quiet(0, 990, 1));
        CHECK.due("one less", 7, x.quiet(0, 989, 1));
        CHECK.due("99", 2047, x.quiet(0, 99, 1));
        CHECK.due("98", 4095, x.quiet(0, 98, 1));
        CHECK.due("0", 4095, x.quiet(0, 0, 1));
        CHECK.due("0 where nothing is heard", 0, x.quiet(1, 0, 1));
        CHECK.illegal("-1", () -> x.quiet(0, -1, 1));
        CHECK.illegal("1000", () -> x.quiet(0, 1000, 1));
    }

    private static void quietAll() {
        CHECK.sentence("(All stopped always does.)");
        NoiseHouse x = new NoiseHouse();
        CHECK.house(x, "room 0;heir in 0 ear 1;noise clock 0 in 0 pitch 1 loud 1 worth 9;noise clock 0 in 0 pitch 1 loud 1 worth 99");
        CHECK.due("all", 3, x.quiet(0, 0, 200));
        CHECK.due("the cheaper", 1, x.quiet(0, 1, 200));
        CHECK.due("none", 0, x.quiet(0, 2, 200));
        NoiseHouse y = new NoiseHouse();
        CHECK.house(y, "room 0");
        CHECK.due("without noises", 0, y.quiet(0, 0, 1));
    }

    private static void quietTies() {
        CHECK.sentence("all other NOISES together are AT the ROOM no more than TARGET: of several the fewest, then the least as bits.");
        NoiseHouse x = new NoiseHouse();
        CHECK.house(x, "room 0;heir in 0 ear 1;noise clock 0 in 0 pitch 1 loud 10 worth 5;noise clock 0 in 0 pitch 1 loud 10 worth 5;"
            + "noise clock 0 in 0 pitch 1 loud 20 worth 10;noise clock 0 in 0 pitch 1 loud 20 worth 10;noise foot in 0 pitch 1 loud 5 worth 1");
        // in all 65
        CHECK.due("nothing is due for the foot", 16, x.quiet(0, 60, 1));
        CHECK.due("5 more: the least of two alike", 1, x.quiet(0, 55, 1));
        CHECK.due("10 more: one of 10 is fewer than two of 5", 4, x.quiet(0, 45, 1));
        CHECK.due("5 more with the foot, not 10 without it", 17, x.quiet(0, 50, 1));
        CHECK.due("20 more: two of 10, not one and two of 5", 12, x.quiet(0, 25, 1));
        CHECK.due("15 more: 10 and 5, the least", 5, x.quiet(0, 35, 1));
        NoiseHouse y = new NoiseHouse();
        CHECK.house(y, "room 0;noise foot in 0 pitch 1 loud 5 worth 1;noise foot in 0 pitch 1 loud 10 worth 1;"
            + "noise foot in 0 pitch 1 loud 10 worth 1;noise foot in 0 pitch 1 loud 15 worth 1");
        CHECK.due("1 and 2 are less as bits than 0 and 3", 6, y.quiet(0, 20, 1));
    }

    private static void suspectsAll() {
        CHECK.sentence("all, if it never did: as bits.");
        NoiseHouse x = new NoiseHouse();
        CHECK.house(x, "room 0;room 0;noise foot in 0 pitch 1 loud 9 worth 1");
        CHECK.due("without heirs", 0, x.suspects(0));
        CHECK.house(x, "heir in 1 ear 1;".repeat(5) + "heir in 1 ear 1");
        CHECK.due("all six, wherever", 63, x.suspects(0));
        x.hours(50);
        CHECK.due("all six still", 63, x.suspects(0));
        x.make(0);
        CHECK.due("made to, but it has not sounded", 63, x.suspects(0));
        x.hours(1);
        CHECK.due("it did", 0, x.suspects(0));
    }

    private static void suspectsDoors() {
        CHECK.sentence("HEIRS who were in its ROOM, or in one with a DOOR to it, in some HOUR from the latest on in which it SOUNDED");
        NoiseHouse x = new NoiseHouse();
        CHECK.house(x, "room 0;room 0;room 0;room 0;door 1 0 30;door 2 1 1;noise clock 0 in 0 pitch 1 loud 1 worth 1;"
            + "heir in 0 ear 50;heir in 1 ear 50;heir in 2 ear 50;heir in 3 ear 50");
        x.hours(1);
        CHECK.due("in its room, and by one door", 3, x.suspects(0));
        x.go(0, 3);
        x.go(1, 3);
        CHECK.due("who went away behind it", 3, x.suspects(0));
        x.go(2, 1);
        CHECK.due("who came, but no hour went by", 3, x.suspects(0));
        x.hours(1);
        CHECK.due("who came by then", 7, x.suspects(0));
        x.hours(22);
        CHECK.due("an hour ahead of the next sounding", 7, x.suspects(0));
        x.hours(1);
        CHECK.due("from the latest on alone", 4, x.suspects(0));
        NoiseHouse y = new NoiseHouse();
        CHECK.house(y, "room 0;room 0;room 0;room 0;door 1 0 1;door 1 2 1;door 3 2 1;heir in 0 ear 1;heir in 1 ear 1;heir in 2 ear 1;heir in 3 ear 1;"
            + "noise clock 0 in 1 pitch 1 loud 1 worth 1;noise clock 0 in 3 pitch 1 loud 1 worth 1;noise clock 0 in 0 pitch 1 loud 1 worth 1");
        y.hours(1);
        CHECK.due("doors told from either side", 7, y.suspects(0));
        CHECK.due("the last room", 12, y.suspects(1));
        CHECK.due("the first room", 3, y.suspects(2));
    }

    private static void suspectsOfForty() {
        CHECK.sentence("(the latest 40 HOURS that went by are remembered: where each who was there by then was)");
        NoiseHouse x = new NoiseHouse();
        CHECK.house(x, "room 0;".repeat(9) + "room 0;noise foot in 9 pitch 1 loud 9 worth 1");
        CHECK.house(x, "heir in 9 ear 1;".repeat(5) + "heir in 9 ear 1");
        x.make(0);
        x.hours(1);
        for (int heir = 0; heir < 6; heir++) {
            x.go(heir, 0);
        }
        x.hours(39);
        CHECK.due("40 hours ago", 63, x.suspects(0));
        x.hours(1);
        CHECK.due("41 hours ago", 0, x.suspects(0));
        x.go(5, 9);
        x.hours(1);
        x.go(5, 0);
        x.hours(39);
        CHECK.due("40 hours ago, behind the first", 32, x.suspects(0));
        x.hours(240);
        CHECK.due("long ago", 0, x.suspects(0));
        NoiseHouse y = new NoiseHouse();
        CHECK.house(y, "room 0;noise foot in 0 pitch 1 loud 9 worth 1");
        y.make(0);
        y.hours(1);
        CHECK.house(y, "heir in 0 ear 1");
        CHECK.due("one who was not there by then", 0, y.suspects(0));
        y.hours(1);
        CHECK.due("an hour on", 1, y.suspects(0));
        NoiseHouse z = new NoiseHouse();
        CHECK.house(z, "room 0;room 0;noise clock 1 in 0 pitch 1 loud 9 worth 1;heir in 0 ear 1");
        z.hours(1);
        z.go(0, 1);
        for (int hour = 2; hour <= 90; hour++) {
            z.hours(1);
            CHECK.due("who was there ahead of the sounding alone, behind " + hour + " hours", 0, z.suspects(0));
        }
    }

    /** ghost(what) of these bytes: a ROOM, how loud, a ROOM, how loud .. */
    private static int heard(NoiseHouse x, int what, int... rows) {
        Check.write(x, bytes(rows));
        return x.ghost(what);
    }

    private static String bytes(int... rows) {
        StringBuilder text = new StringBuilder();
        for (int at = 0; at < rows.length; at++) {
            text.append((char) (at % 2 == 0 ? 97 + rows[at] : rows[at]));
        }
        return text.toString();
    }

    private static void wrongGhost(NoiseHouse x, int... rows) {
        Check.write(x, bytes(rows));
        CHECK.illegal("ghost(0) of " + java.util.Arrays.toString(rows), () -> x.ghost(0));
        CHECK.due("the TAPE is used up", false, x.end(1));
    }

    private static void ghostRooms() {
        CHECK.sentence("GHOST: what was heard is told, of at most 6 ROOMS how loud");
        NoiseHouse x = new NoiseHouse();
        CHECK.house(x, "room 0;".repeat(9) + "room 0");
        CHECK.due("one room, the last", 9, heard(x, 1, 9, 50));
        CHECK.due("six rooms", 1, heard(x, 0, 9, 50, 0, 0, 1, 0, 2, 0, 3, 0, 4, 0));
        wrongGhost(x, 9, 50, 0, 0, 1, 0, 2, 0, 3, 0, 4, 0, 5, 0);
        wrongGhost(x, 9, 50, 0, 0, 1, 0, 2, 0, 3, 0, 4, 0, 5);
        wrongGhost(x);
        wrongGhost(x, 9);
        wrongGhost(x, 9, 50, 0);
        wrongGhost(x, 10, 50);
        wrongGhost(x, -1, 50);
        wrongGhost(x, 0, 0, 10, 50);
        wrongGhost(new NoiseHouse(), 0, 0);
        x.feed(0x61326100, 0x62006300, 0x64006500, 0x66006600, 0x66006600);
        CHECK.illegal("ten rooms", () -> x.ghost(0));
    }

    private static void ghostLoud() {
        CHECK.sentence("all ROOMS and LOUD (1 to 99) by which it is just so AT each of these: how many;");
        NoiseHouse x = new NoiseHouse();
        CHECK.house(x, "room 0;room 20;room 5");
        CHECK.due("99 in a room without a carpet", 99, heard(x, 2, 0, 99));
        CHECK.due("1 in it", 1, heard(x, 2, 0, 1));
        CHECK.due("0 in it: from the two others", 198, heard(x, 0, 0, 0));
        CHECK.due("79 on a carpet of 20", 99, heard(x, 2, 1, 79));
        CHECK.due("80 on a carpet of 20", 0, heard(x, 0, 1, 80));
        CHECK.due("80 on a carpet of 20, the room", -1, heard(x, 1, 1, 80));
        CHECK.due("80 on a carpet of 20, loud", -1, heard(x, 2, 1, 80));
        CHECK.due("0 on a carpet of 20", 99 + 20 + 99, heard(x, 0, 1, 0));
        CHECK.due("0 everywhere", 20 + 5, heard(x, 0, 0, 0, 1, 0, 2, 0));
        wrongGhost(x, 0, 100);
        wrongGhost(x, 0, 255);
        wrongGhost(x, 0, 128);
    }

    private static void ghostFirst() {
        CHECK.sentence("how many; the first (ROOM, then LOUD).");
        NoiseHouse x = new NoiseHouse();
        CHECK.house(x, "room 0;room 5;room 0;door 1 2 3");
        CHECK.due("the least room", 1, heard(x, 1, 0, 0));
        CHECK.due("its least loud", 1, heard(x, 2, 0, 0));
        // AT 2: from 1 LOUD 5 and 3 more, from 2 LOUD itself
        CHECK.due("10 at 2: from 1 and from 2", 2, heard(x, 0, 2, 10));
        CHECK.due("the first room", 1, heard(x, 1, 2, 10));
        CHECK.due("the first loud", 18, heard(x, 2, 2, 10));
        CHECK.due("92 at 2: from 2 alone", 2, heard(x, 1, 2, 92));
        CHECK.due("91 at 2: from 1, too", 99, heard(x, 2, 2, 91));
        CHECK.due("none", -1, heard(x, 1, 2, 10, 0, 10));
        CHECK.due("none, loud", -1, heard(x, 2, 2, 10, 0, 10));
        CHECK.due("none, how many", 0, heard(x, 0, 2, 10, 0, 10));
    }

    private static void breach() {
        CHECK.sentence("BREACH of a CARPET of N (0 to 20) in a ROOM: DUE of all NOISES for 10 DAYS now, less that with it in place of the one there.");
        NoiseHouse x = new NoiseHouse();
        CHECK.house(x, "room 10;room 0;heir in 0 ear 10;heir in 1 ear 9;noise clock 0 in 0 pitch 1 loud 30 worth 3;"
            + "noise beast 1 in 0 pitch 1 loud 21 worth 5;noise clock 5 in 1 pitch 1 loud 9 worth 7");
        CHECK.due("the one there", 0, x.breach(0, 10));
        CHECK.due("just heard", 0, x.breach(0, 11));
        CHECK.due("not just heard", 24 * 10 * 5, x.breach(0, 12));
        CHECK.due("the greatest: just heard", 24 * 10 * 5, x.breach(0, 20));
        CHECK.due("in the other room", 7000, x.breach(1, 1));
        x.oil(CLOCK, 1);
        CHECK.due("both that are in it", 24 * 10 * 5 + 3000, x.breach(0, 20));
        x.undo();
        x.carpet(0, 20);
        CHECK.due("below 0", -24 * 10 * 5, x.breach(0, 0));
        CHECK.due("the carpet stays", 20, x.room(0, 0));
        CHECK.illegal("-1", () -> x.breach(0, -1));
        CHECK.illegal("21", () -> x.breach(0, 21));
    }

    private static void silenceAbove() {
        CHECK.sentence("those NOISES that are AT the ROOM above 0;");
        NoiseHouse x = new NoiseHouse();
        CHECK.house(x, "room 0;room 0;heir in 0 ear 1;noise clock 0 in 0 pitch 1 loud 2 worth 7;noise clock 0 in 1 pitch 1 loud 2 worth 5");
        CHECK.due("the one of the room", 700, x.silence(0, 1, 1, false));
        CHECK.due("one that none hears is sold in round 1", 1, x.silence(1, 1, 9, false));
        CHECK.due("for the first offer", 9, x.silence(1, 1, 9, true));
        x.oil(1, 1);
        CHECK.due("just above 0", 1, x.silence(1, 1, 9, false));
        x.oil(1, 1);
        CHECK.due("just 0: none", 0, x.silence(1, 1, 9, false));
        CHECK.due("just 0: nothing is paid", 0, x.silence(1, 1, 9, true));
        NoiseHouse y = new NoiseHouse();
        CHECK.house(y, "room 0");
        CHECK.due("without noises", 0, y.silence(0, 1, 1, false));
        CHECK.due("without noises, paid", 0, y.silence(0, 1, 1, true));
    }

    private static void silenceSteps() {
        CHECK.sentence("SILENCE that a tenant buys in a ROOM for N DAYS by STEP (1 to 999)");
        NoiseHouse x = new NoiseHouse();
        CHECK.house(x, "room 0;heir in 0 ear 1;noise clock 0 in 0 pitch 1 loud 9 worth 20");
        CHECK.due("by 1", 2000, x.silence(0, 1, 1, false));
        CHECK.due("by 999", 3, x.silence(0, 1, 999, false));
        CHECK.due("by 999, paid", 2997, x.silence(0, 1, 999, true));
        for (int step : new int[] {0, -1, 1000, Integer.MIN_VALUE, Integer.MAX_VALUE}) {
            CHECK.illegal("by " + step, () -> x.silence(0, 1, step, false));
            CHECK.illegal("by " + step + ", paid", () -> x.silence(0, 1, step, true));
        }
    }

    private static void silenceRounds() {
        CHECK.sentence("round by round (from 1 on) the offer for each is STEP more (in hundredths); one whose DUE is the offer at most is sold then, for that offer");
        NoiseHouse x = new NoiseHouse();
        CHECK.house(x, "room 0;heir in 0 ear 1;noise clock 0 in 0 pitch 1 loud 9 worth 9");
        // DUE for a day is 900
        CHECK.due("the first offer is enough", 1, x.silence(0, 1, 900, false));
        CHECK.due("the first offer is more", 1, x.silence(0, 1, 999, false));
        CHECK.due("paid the offer, not the due", 999, x.silence(0, 1, 999, true));
        CHECK.due("the first offer is one less", 2, x.silence(0, 1, 899, false));
        CHECK.due("paid twice the step", 1798, x.silence(0, 1, 899, true));
        CHECK.due("just half", 2, x.silence(0, 1, 450, false));
        CHECK.due("one less than half", 3, x.silence(0, 1, 449, false));
        CHECK.due("by 1", 900, x.silence(0, 1, 1, false));
        CHECK.due("by 1, paid", 900, x.silence(0, 1, 1, true));
        CHECK.illegal("by 0", () -> x.silence(0, 1, 0, false));
        CHECK.illegal("by 1000", () -> x.silence(0, 1, 1000, false));
        CHECK.house(x, "noise clock 0 in 0 pitch 1 loud 9 worth 4;noise foot in 0 pitch 1 loud 9 worth 4");
        CHECK.due("the rounds of the last", 9, x.silence(0, 1, 100, false));
        CHECK.due("each for its own offer", 900 + 400 + 100, x.silence(0, 1, 100, true));
    }

    private static void silenceTooLong() {
        CHECK.sentence("(0, 0 without such; more than 9999 rounds: none).");
        NoiseHouse x = new NoiseHouse();
        CHECK.house(x, "room 0;heir in 0 ear 1;noise clock 0 in 0 pitch 1 loud 9 worth 99;noise clock 0 in 0 pitch 1 loud 9 worth 1");
        // 9900 a day: 101 days are 999900, 100 days 990000
        CHECK.due("9999 rounds", 9999, x.silence(0, 101, 100, false));
        CHECK.due("9999 rounds, paid", 999900 + 10100, x.silence(0, 101, 100, true));
        CHECK.due("10000 rounds", -1, x.silence(0, 100, 99, false));
        CHECK.due("10000 rounds, paid", -1, x.silence(0, 100, 99, true));
        CHECK.due("the most of all", -1, x.silence(0, 200, 1, false));
        CHECK.due("the most of all, paid", -1, x.silence(0, 200, 1, true));
    }

    private static void ears() {
        CHECK.sentence("100 times that by all, rounded down; 0 of one who does not.");
        NoiseHouse x = new NoiseHouse();
        CHECK.house(x, "room 0;room 0;" + "heir in 0 ear 50;".repeat(5) + "heir in 1 ear 1;noise foot in 0 pitch 1 loud 50 worth 1");
        CHECK.due("one of five", 20, x.ears(4, 0));
        CHECK.due("one without a way", 0, x.ears(5, 0));
        x.go(5, 0);
        CHECK.due("one of six", 16, x.ears(5, 0));
        x.oil(0, 1);
        CHECK.due("all by the only one", 100, x.ears(5, 0));
        CHECK.due("one who does not just hear it", 0, x.ears(4, 0));
        x.oil(0, 48);
        CHECK.due("the least that is heard", 100, x.ears(5, 0));
        x.oil(0, 1);
        CHECK.due("heard by none", 0, x.ears(5, 0));
    }

    private static void seatTies() {
        CHECK.sentence("is the greatest together; of several the least; none without ROOMS.");
        NoiseHouse x = new NoiseHouse();
        CHECK.outOfBounds("without rooms there is no heir", () -> x.seat(0));
        CHECK.house(x, "room 0;room 0;room 0;heir in 1 ear 9");
        CHECK.due("without noises the least", 0, x.seat(0));
        CHECK.house(x, "noise clock 0 in 1 pitch 1 loud 9 worth 5;noise clock 1 in 2 pitch 1 loud 9 worth 5");
        CHECK.due("without titles the least", 0, x.seat(0));
        CHECK.will(x, "to 0 part 1", 1);
        CHECK.due("two alike: the lesser", 1, x.seat(0));
        x.oil(0, 1);
        CHECK.due("what one does not just hear", 2, x.seat(0));
        x.oil(1, 1);
        CHECK.due("neither", 0, x.seat(0));
    }

    private static void seatRounded() {
        CHECK.sentence("WINTER for 1 DAY times WORTH times TITLE by all TITLES (of now; rounded down for each; 0 without TITLES)");
        NoiseHouse x = new NoiseHouse();
        CHECK.house(x, "room 0;room 0;heir in 0 ear 1;heir in 0 ear 1;noise beast 1 in 0 pitch 1 loud 9 worth 7;noise beast 1 in 1 pitch 1 loud 9 worth 7;"
            + "noise beast 1 in 1 pitch 1 loud 9 worth 7");
        CHECK.will(x, "to 0 part 1;to 1 part 168 if noise > 0", 2);
        // 24 times 7 are 168, in room 0 for one alone; in room 1 twice 168 by 169
        CHECK.due("two that are rounded to nothing", 0, x.seat(0));
        CHECK.will(x, "to 0 part 1;to 1 part 1 if noise > 0", 2);
        // 84 and 84 are not more than 168
        CHECK.due("the same: the least", 0, x.seat(0));
        CHECK.house(x, "noise beast 100 in 1 pitch 1 loud 9 worth 99");
        CHECK.due("the greatest", 1, x.seat(0));
        CHECK.will(x, "to 1 part 1 if noise > 0;to 0 part 1 if noise < 1", 2);
        CHECK.due("0 without a title, however much it is", 0, x.seat(0));
        CHECK.due("the other's seat", 1, x.seat(1));
        CHECK.will(x, "to 0 part 1 if hears", 1);
        CHECK.due("titles of now, where it is not heard", 0, x.seat(0));
        x.go(0, 1);
        CHECK.due("titles of now, where it is heard", 1, x.seat(0));
    }

    private static void seatOfADay() {
        CHECK.sentence("WINTER for 1 DAY times WORTH times TITLE by all TITLES");
        NoiseHouse x = new NoiseHouse();
        String beast = ";noise beast 1 in 1 pitch 1 loud 9 worth 1";
        CHECK.house(x, "room 0;room 0;heir in 0 ear 9;heir in 0 ear 9;noise clock 0 in 0 pitch 1 loud 9 worth 1" + beast.repeat(5));
        CHECK.will(x, "to 0 part 41 if beast;to 1 part 7 if beast;to 0 part 1 if clock", 3);
        // a day: 24 times 41 by 48 is 20.5, five of 20 are the clock's 100; of two days they were 205 to 200
        CHECK.due("rounded for a day", 0, x.seat(0));
    }

    private static void value() {
        CHECK.sentence("VALUE of an HEIR: what one gets of DUE for 100 DAYS of each NOISE, PARTED.");
        NoiseHouse x = new NoiseHouse();
        CHECK.house(x, "room 0;room 0;heir in 0 ear 1;heir in 1 ear 1;heir in 1 ear 1;noise beast 1 in 0 pitch 1 loud 9 worth 1;noise clock 0 in 0 pitch 1 loud 9 worth 1");
        CHECK.due("without titles", 0, x.value(0));
        CHECK.will(x, "to 0 part 1;to 1 part 5;to 2 part 1", 3);
        // 2400: 342.8, 1714.2, 342.8: two left over; 10000: 1428.5, 7142.8, 1428.5: two left over
        CHECK.due("with what is left over for each", 343 + 1429, x.value(0));
        CHECK.due("the greatest title", 1715 + 7143, x.value(1));
        CHECK.due("nothing left over", 342 + 1428, x.value(2));
        x.go(0, 1);
        CHECK.due("heard by none", 0, x.value(1));
        NoiseHouse y = new NoiseHouse();
        String noise = "noise beast 100 in 0 pitch 1 loud 9 worth 99";
        CHECK.house(y, "room 0;heir in 0 ear 1;" + (noise + ";").repeat(5) + noise);
        CHECK.house(y, (noise + ";").repeat(5) + noise);
        CHECK.will(y, "to 0 part 999;".repeat(11) + "to 0 part 999", 12);
        CHECK.due("the greatest of all", 12L * 240000 * 99, y.value(0));
        CHECK.due("he buys, and pays nobody", 0, y.sale(true));
    }

    private static void sale() {
        CHECK.sentence("SALE: the HEIR of the greatest VALUE, of several the least, buys, and pays each other one that one's VALUE: who; the sum; none without HEIRS (told, not done).");
        NoiseHouse x = new NoiseHouse();
        CHECK.due("without heirs, who", -1, x.sale(false));
        CHECK.due("without heirs, the sum", -1, x.sale(true));
        CHECK.house(x, "room 0;noise clock 0 in 0 pitch 1 loud 9 worth 1;heir in 0 ear 1");
        CHECK.due("one alone, who", 0, x.sale(false));
        CHECK.due("one alone, the sum", 0, x.sale(true));
        CHECK.house(x, "heir in 0 ear 1;heir in 0 ear 1");
        CHECK.due("three of nothing: the least", 0, x.sale(false));
        CHECK.will(x, "to 1 part 1;to 2 part 1", 2);
        CHECK.due("two alike: the lesser", 1, x.sale(false));
        CHECK.due("two alike: the sum", 5000, x.sale(true));
        CHECK.will(x, "to 1 part 1;to 2 part 2;to 0 part 1", 3);
        CHECK.due("the greatest", 2, x.sale(false));
        CHECK.due("the sum of the others", 5000, x.sale(true));
        CHECK.will(x, "to 1 part 3;to 2 part 2;to 0 part 5", 3);
        CHECK.due("the first is the greatest", 0, x.sale(false));
        CHECK.due("the sum of the lesser", 5000, x.sale(true));
        CHECK.due("told, not done", 0, x.heir(1, 2) + x.heir(2, 2) + x.count(11));
    }

    private static void twelveActs() {
        CHECK.sentence("UNDONE: the latest ACT, not undone yet (12 are remembered)");
        NoiseHouse x = new NoiseHouse();
        CHECK.house(x, "room 0;noise foot in 0 pitch 1 loud 9 worth 1");
        CHECK.due("none", false, x.undo());
        for (int act = 1; act <= 12; act++) {
            x.oil(0, 1);
            CHECK.due("acts", act, x.count(13));
        }
        x.oil(0, 1);
        CHECK.due("twelve of thirteen", 12, x.count(13));
        for (int act = 12; act >= 1; act--) {
            CHECK.due("undo", true, x.undo());
            CHECK.due("oil", act, x.noise(0, 5));
            CHECK.due("acts", act - 1, x.count(13));
        }
        CHECK.due("the first is not remembered", false, x.undo());
        CHECK.due("oil stays", 1, x.noise(0, 5));
        for (int act = 0; act < 30; act++) {
            x.carpet(0, act % 21);
        }
        CHECK.due("undo", true, x.undo());
        x.oil(0, 5);
        CHECK.due("twelve again", 12, x.count(13));
        CHECK.due("undo the oil", true, x.undo());
        CHECK.due("the oil", 1, x.noise(0, 5));
        for (int act = 0; act < 11; act++) {
            CHECK.due("undo", true, x.undo());
        }
        CHECK.due("undo none", false, x.undo());
        CHECK.due("the carpet ahead of those that are remembered", 17, x.room(0, 0));
    }

    private static void undoneAll() {
        CHECK.sentence("all is as ahead of it (but for the TAPE, fault(), THE IMAGE).");
        NoiseHouse x = new NoiseHouse();
        CHECK.house(x, "room 0;room 0;heir in 0 ear 1;noise foot in 0 pitch 1 loud 9 worth 1");
        x.seed(5);
        x.go(0, 1);
        x.make(0);
        x.oil(0, 9);
        x.carpet(1, 9);
        x.seed(6);
        CHECK.wrongHouse(x, "room", 4);
        x.feed(1, 2, 3, 4, 5);
        x.image();
        CHECK.due("undo the carpet", true, x.undo());
        CHECK.due("carpet", 0, x.room(1, 0));
        CHECK.due("seed", 5, x.seed(5));
        CHECK.due("undo the oil", true, x.undo());
        CHECK.due("oil", 0, x.noise(0, 5));
        CHECK.due("undo the make", true, x.undo());
        CHECK.due("make is new, and undone", true, x.make(0) && x.undo());
        CHECK.due("undo the go", true, x.undo());
        CHECK.due("where one was", 0, x.heir(0, 0));
        CHECK.due("fault() stays", 4, x.fault());
        CHECK.due("the TAPE stays", true, x.end(20) && !x.end(21));
        CHECK.due("the image stays", true, x.back());
        CHECK.due("carpet of the image", 9, x.room(1, 0));
        CHECK.due("oil of the image", 9, x.noise(0, 5));
        CHECK.due("seed of the image", 6, x.seed(6));
        CHECK.due("make of the image", false, x.make(0));
    }

    private static void forgotten() {
        CHECK.sentence("A text, an HOUR that goes by, going back: none are remembered.");
        NoiseHouse x = new NoiseHouse();
        CHECK.house(x, "room 0;noise foot in 0 pitch 1 loud 9 worth 1");
        x.oil(0, 1);
        CHECK.house(x, "");
        CHECK.due("a text of the house", 0, x.count(13));
        CHECK.due("undo", false, x.undo());
        x.oil(0, 1);
        CHECK.will(x, "", 0);
        CHECK.due("a will", 0, x.count(13));
        CHECK.due("undo", false, x.undo());
        x.oil(0, 1);
        x.hours(1);
        CHECK.due("an hour", 0, x.count(13));
        CHECK.due("undo", false, x.undo());
        x.oil(0, 1);
        x.image();
        CHECK.due("an image forgets none", 1, x.count(13));
        x.oil(0, 1);
        CHECK.due("back()", true, x.back());
        CHECK.due("going back", 0, x.count(13));
        CHECK.due("undo", false, x.undo());
        CHECK.due("oil", 4, x.noise(0, 5));
        x.oil(0, 1);
        x.seed(3);
        CHECK.wrongHouse(x, "x", 0);
        CHECK.wrongWill(x, "x", 0);
        CHECK.illegal("hours(0)", () -> x.hours(0));
        CHECK.illegal("hours(241)", () -> x.hours(241));
        CHECK.due("what was refused forgets none", 1, x.count(13));
        CHECK.due("undo", true, x.undo());
    }

    private static void image() {
        CHECK.sentence("THE IMAGE (one) of all may be kept, and gone back to (but for the TAPE, fault() and THE IMAGE itself).");
        NoiseHouse x = new NoiseHouse();
        x.image();
        CHECK.house(x, "room 3;heir in 0 ear 1;noise clock 0 in 0 pitch 1 loud 9 worth 5;noise foot in 0 pitch 1 loud 9 worth 1;stormy 100");
        CHECK.will(x, "to 0 part 1", 1);
        x.make(1);
        x.hours(1);
        CHECK.wrongWill(x, "to", 2);
        x.feed(1, 2, 3, 4, 5);
        CHECK.due("back to a new house", true, x.back());
        for (int what = 0; what < 14; what++) {
            CHECK.due("count(" + what + ")", what == 5 ? -1 : 0, x.count(what));
        }
        CHECK.due("seed", 1, x.seed(1));
        CHECK.due("fault() stays", 2, x.fault());
        CHECK.due("the TAPE stays", true, x.end(20) && !x.end(21));
        CHECK.due("back again", true, x.back());
        CHECK.outOfBounds("no room", () -> x.room(0, 0));
        CHECK.house(x, "room 1;noise foot in 0 pitch 1 loud 9 worth 1;heir in 0 ear 1");
        CHECK.due("the first text again", 1, x.count(4));
        CHECK.due("a new noise has not sounded", -1, x.noise(0, 7));
        CHECK.due("a new noise was not made to", true, x.make(0));
        CHECK.due("a new heir has no coins", 0, x.heir(0, 2));
        x.image();
        CHECK.due("it sounds", 1, x.hours(1));
        CHECK.due("back to it", true, x.back());
        CHECK.due("it sounds again", 1, x.hours(1));
        CHECK.due("one image alone", true, x.back() && x.count(0) == 1);
    }
}
