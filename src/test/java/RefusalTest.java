import java.util.NoSuchElementException;

/** Each sentence of the promises that names a bound or a refused call: what it throws or answers, in which order, and that nothing changes. */
public final class RefusalTest {
    private static final Check CHECK = new Check("RefusalTest");
    private static final Class<IndexOutOfBoundsException> BOUNDS = IndexOutOfBoundsException.class;
    private static final Class<IllegalArgumentException> ILLEGAL = IllegalArgumentException.class;
    private static final Class<NoSuchElementException> NO_SUCH = NoSuchElementException.class;
    private static final int LEAST = Integer.MIN_VALUE;
    private static final int MOST = Integer.MAX_VALUE;
    private static final int ROOMS = 3;
    private static final int HEIRS = 2;
    private static final int NOISES = 5;
    private static final int CLOCK = 0;
    private static final int WEATHER = 1;
    private static final int BEAST = 2;
    private static final int FOOT = 3;

    /** A call on an object. */
    private interface Call {
        long on(NoiseHouse x);
    }

    /** A call with one number that varies. */
    private interface CallOf {
        long on(NoiseHouse x, int n);
    }

    public static void main(String[] args) {
        newObject();
        lastCall();
        feed();
        end();
        house();
        will();
        fault();
        looks();
        costAndAt();
        title();
        part();
        hours();
        go();
        make();
        oil();
        carpet();
        undo();
        which();
        winter();
        suspects();
        ghost();
        breach();
        silence();
        seats();
        seed();
        image();
        count();
        order();
        CHECK.finish();
    }

    /** A house in the midst of all: hours gone by, a will, an image, acts behind it, twenty bytes on the TAPE. */
    private static NoiseHouse furnished() {
        NoiseHouse x = new NoiseHouse();
        Check.write(x, "room 1;room 2;room 0;door 0 1 3;stormy 30;heir in 0 ear 5;heir in 2 ear 9;noise clock 0 3 7 in 0 pitch 20 loud 40 worth 7;"
            + "noise weather in 1 pitch 25 loud 30 worth 9;noise beast 50 in 2 pitch 30 loud 20 worth 11");
        x.house();
        Check.write(x, "noise foot in 2 pitch 35 loud 60 worth 13;noise foot in 0 pitch 40 loud 70 worth 15");
        x.house();
        Check.write(x, "to 0 part 3;to 1 part 2 if hears or storm;bar 0 if foot");
        x.will();
        Check.write(x, "bar");
        CHECK.illegal("a will that is wrong", x::will);
        x.hours(9);
        x.image();
        x.go(0, 1);
        x.make(FOOT);
        x.oil(CLOCK, 2);
        x.feed(0x61016201, 0x63016101, 0x62016301, 0, 0);
        return x;
    }

    /** What such a house answers from here on; two objects of which one was asked what is refused must answer alike. */
    private static String fromHereOn(NoiseHouse x) {
        StringBuilder told = new StringBuilder();
        told.append(look(x));
        told.append(x.undo()).append(x.noise(CLOCK, 5));
        told.append(x.make(FOOT)).append(x.make(FOOT + 1)).append(x.hours(5)).append(look(x));
        told.append(x.suspects(CLOCK)).append(' ').append(x.suspects(FOOT)).append(x.undo());
        told.append(x.back()).append(look(x)).append(x.hours(3)).append(' ').append(x.seed(1));
        return told.toString();
    }

    private static String look(NoiseHouse x) {
        StringBuilder told = new StringBuilder();
        for (int what = 0; what < 14; what++) {
            told.append(x.count(what)).append(' ');
        }
        for (int room = 0; room < ROOMS; room++) {
            told.append("room ").append(x.room(room, 0)).append(' ').append(x.room(room, 1)).append(' ').append(x.room(room, 3)).append(' ');
        }
        for (int heir = 0; heir < HEIRS; heir++) {
            told.append("heir ").append(x.heir(heir, 0)).append(' ').append(x.heir(heir, 2)).append(' ').append(x.heir(heir, 3)).append(' ');
            told.append(x.title(heir, CLOCK)).append(' ').append(x.title(heir, FOOT)).append(' ');
        }
        for (int noise = 0; noise < NOISES; noise++) {
            told.append("noise ").append(x.noise(noise, 5)).append(' ').append(x.noise(noise, 7)).append(' ').append(x.noise(noise, 8)).append(' ');
        }
        int seed = x.seed(0);
        x.seed(seed);
        return told.append("seed ").append(seed).append(" cost ").append(x.cost(1, 0)).append('\n').toString();
    }

    private static final String PLAIN = fromHereOn(furnished());

    /** It throws this, and changes nothing, the TAPE and fault() too. */
    private static void refused(String call, Class<? extends RuntimeException> want, Call ask) {
        NoiseHouse x = furnished();
        CHECK.refused(call, want, () -> ask.on(x));
        CHECK.due("the TAPE behind " + call, true, x.end(20) && !x.end(21));
        CHECK.due("fault() behind " + call, 3, x.fault());
        CHECK.same("all behind " + call, PLAIN, fromHereOn(x));
    }

    /** It answers this, and changes nothing, the TAPE and fault() too. */
    private static void answers(String call, long want, Call ask) {
        NoiseHouse x = furnished();
        CHECK.due(call, want, ask.on(x));
        CHECK.due("the TAPE behind " + call, true, x.end(20) && !x.end(21));
        CHECK.due("fault() behind " + call, 3, x.fault());
        CHECK.same("all behind " + call, PLAIN, fromHereOn(x));
    }

    /** It throws this and uses the TAPE up, but changes nothing else. */
    private static void refusedText(String call, String text, Class<? extends RuntimeException> want, Call ask, int fault) {
        NoiseHouse x = furnished();
        Check.write(x, text);
        CHECK.refused(call, want, () -> ask.on(x));
        CHECK.due("the TAPE is used up by " + call, false, x.end(1));
        CHECK.due("fault() behind " + call, fault, x.fault());
        CHECK.same("all behind " + call, PLAIN, fromHereOn(x));
    }

    /** Refused one below the least and one above the greatest, and far off; not refused at both. */
    private static void bounds(String call, int least, int most, Class<? extends RuntimeException> want, CallOf ask) {
        for (int n : new int[] {least - 1, most + 1, LEAST, MOST, least - 256, most + 256}) {
            refused(call + " of " + n, want, x -> ask.on(x, n));
        }
        for (int n : new int[] {least, most}) {
            NoiseHouse x = furnished();
            ask.on(x, n);
            CHECK.due(call + " of " + n + " is not refused", true, true);
        }
    }

    private static void newObject() {
        CHECK.sentence("`NoiseHouse()`: Nothing told.");
        NoiseHouse x = new NoiseHouse();
        for (int what = 0; what < 14; what++) {
            CHECK.due("count(" + what + ")", what == 5 ? -1 : 0, x.count(what));
        }
        CHECK.due("fault()", -1, x.fault());
        CHECK.due("the TAPE is empty", true, x.end(0) && !x.end(1));
        CHECK.due("no image", false, x.back());
        CHECK.due("no act", false, x.undo());
        CHECK.due("SEED", 1, x.seed(1));
        CHECK.due("an empty will", 0, x.will());
        NoiseHouse y = new NoiseHouse();
        CHECK.due("each object has its own", -1, y.count(5));
    }

    private static void lastCall() {
        CHECK.sentence("An object is used for at most 512 calls after it has been made");
        NoiseHouse x = new NoiseHouse();
        x.feed(0x726f6f6d, 0x20303b6e, 0x6f697365, 0x20666f6f, 0x7420696e);
        x.feed(0x20302070, 0x69746368, 0x2031206c, 0x6f756420, 0x3920776f);
        x.feed(0x72746820, 0x31202020, 0x20202020, 0x20202020, 0x20202020);
        x.house();
        for (int call = 5; call <= 508; call += 4) {
            x.oil(0, 99);
            x.make(0);
            x.hours(240);
            x.image();
        }
        CHECK.due("call 509", 126, x.count(12));
        CHECK.due("call 510", 1260, x.count(6));
        CHECK.due("call 511", true, x.back());
        CHECK.due("call 512", 99, x.noise(0, 5));
    }

    private static void feed() {
        CHECK.sentence("Twenty bytes come behind the TAPE, of each number the highest first: how many it has; NONE, and none come, if it would have more than 400.");
        NoiseHouse x = new NoiseHouse();
        for (int n = 1; n <= 20; n++) {
            CHECK.due("feed " + n, 20 * n, x.feed(0x20202020, 0x20202020, 0x20202020, 0x20202020, n < 20 ? 0x20202020 : 0x6f6d2037));
        }
        CHECK.due("the twenty-first", -1, x.feed(-1, -1, -1, -1, -1));
        CHECK.due("none came", true, x.end(400));
        CHECK.illegal("what stands at its end", x::house);
        CHECK.due("the last four bytes are om 7", 396, x.fault());
        for (int size : new int[] {380, 381, 399}) {
            NoiseHouse y = new NoiseHouse();
            for (int n = 0; n < 20; n++) {
                y.feed(0x20202020, 0x20202020, 0x20202020, 0x20202020, 0x20202020);
            }
            y.end(size);
            CHECK.due("feed behind " + size, size == 380 ? 400 : -1, y.feed(-1, -1, -1, -1, -1));
            CHECK.due("so many stay", true, !y.end(size == 380 ? 401 : size + 1) && y.end(size));
            CHECK.due("blanks alone are a text", 1, y.house());
        }
        NoiseHouse z = new NoiseHouse();
        CHECK.due("feed", 20, z.feed(0x726f6f6d, 0x20313b73, 0x746f726d, 0x79203937, 0x20202020));
        CHECK.due("room 1;stormy 97", 1, z.house());
        CHECK.due("stormy", 97, z.count(8));
        CHECK.due("feed", 20, z.feed(0xff000000, 0, 0, 0, 0));
        CHECK.illegal("bytes above 127", z::house);
        CHECK.due("the first", 0, z.fault());
    }

    private static void end() {
        CHECK.sentence("The TAPE has its first n bytes alone: true; false, and nothing happens, if it has fewer, or n is below 0.");
        answers("end(21) of 20", 0, x -> x.end(21) ? 1 : 0);
        answers("end(-1)", 0, x -> x.end(-1) ? 1 : 0);
        answers("end of the least", 0, x -> x.end(LEAST) ? 1 : 0);
        answers("end of the greatest", 0, x -> x.end(MOST) ? 1 : 0);
        answers("end(20) of 20", 1, x -> x.end(20) ? 1 : 0);
        NoiseHouse x = furnished();
        CHECK.due("end(19)", true, x.end(19));
        CHECK.due("end(20) of 19", false, x.end(20));
        CHECK.due("end(0)", true, x.end(0));
        CHECK.due("end(0) of none", true, x.end(0));
        CHECK.due("end(1) of none", false, x.end(1));
        CHECK.due("feed behind none", 20, x.feed(1, 2, 3, 4, 5));
    }

    private static void house() {
        CHECK.sentence("Uses the TAPE up: a text of THE HOUSE: how many there are. IllegalArgumentException: it is wrong; UnsupportedOperationException: there are 10.");
        refusedText("a wrong text", "room 9;stormy 9;carpet 0 9;room", ILLEGAL, NoiseHouse::house, 31);
        NoiseHouse x = furnished();
        for (int text = 3; text <= 10; text++) {
            Check.write(x, "");
            CHECK.due("text " + text, text, x.house());
        }
        x.oil(CLOCK, 1);
        String before = look(x);
        Check.write(x, "room 5;stormy 9");
        CHECK.refused("an eleventh", UnsupportedOperationException.class, x::house);
        CHECK.due("the TAPE is used up", false, x.end(1));
        CHECK.refused("an empty eleventh", UnsupportedOperationException.class, x::house);
        CHECK.same("all behind an eleventh", before, look(x));
        Check.write(x, "room 5;stormy 101");
        CHECK.illegal("an eleventh that is wrong", x::house);
        CHECK.due("its first wrong byte", 14, x.fault());
        CHECK.same("all behind a wrong eleventh", before, look(x));
        CHECK.due("the act can be undone", true, x.undo());
        x.back();
        Check.write(x, "room 5");
        CHECK.due("behind back() there are fewer", 3, x.house());
    }

    private static void will() {
        CHECK.sentence("Uses the TAPE up: THE WILL: how many LINES. IllegalArgumentException: the text is wrong.");
        refusedText("a wrong will", "bar 0;bar 1;bar 6", ILLEGAL, NoiseHouse::will, 16);
        refusedText("thirteen lines", "bar 0;".repeat(12) + "bar 1", ILLEGAL, NoiseHouse::will, 72);
        NoiseHouse x = furnished();
        CHECK.will(x, "bar 0;".repeat(11) + "bar 1", 12);
        CHECK.due("the TAPE is used up", false, x.end(1));
        CHECK.due("an empty one", 0, x.will());
        CHECK.due("it is the will", 0, x.count(5));
    }

    private static void fault() {
        CHECK.sentence("The first wrong byte of the latest text that was read; NONE without one, and ahead of any.");
        NoiseHouse x = new NoiseHouse();
        CHECK.due("ahead of any", -1, x.fault());
        CHECK.wrongHouse(x, "x", 0);
        CHECK.wrongWill(x, "to", 2);
        CHECK.due("asked again", 2, x.fault());
        CHECK.house(x, "room 0");
        CHECK.wrongHouse(x, " ".repeat(399) + "x", 399);
        Check.write(x, "a\0");
        CHECK.due("a ghost is no text", 0, x.ghost(0));
        CHECK.due("fault() stays", 399, x.fault());
        CHECK.illegal("no ghost", () -> x.ghost(0));
        CHECK.due("fault() stays", 399, x.fault());
        CHECK.will(x, "", 0);
        CHECK.due("without one", -1, x.fault());
    }

    private static void looks() {
        CHECK.sentence("3 how loud all NOISES together are AT it. NoSuchElementException: another what.");
        bounds("room(0, ..)", 0, 3, NO_SUCH, (x, n) -> x.room(0, n));
        bounds("room(.., 0)", 0, ROOMS - 1, BOUNDS, (x, n) -> x.room(n, 0));
        answers("heirs in a room where none sits", 0, x -> x.room(0, 2));
        answers("heirs in a room where one sits", 1, x -> x.room(1, 2));
        answers("heirs in the last room", 1, x -> x.room(2, 2));
        CHECK.sentence("3 NOISES that one HEARS, as bits. NoSuchElementException: another what.");
        bounds("heir(0, ..)", 0, 3, NO_SUCH, (x, n) -> x.heir(0, n));
        bounds("heir(.., 0)", 0, HEIRS - 1, BOUNDS, (x, n) -> x.heir(n, 0));
        CHECK.sentence("8 how often so far. NoSuchElementException: another what.");
        bounds("noise(0, ..)", 0, 8, NO_SUCH, (x, n) -> x.noise(0, n));
        bounds("noise(.., 0)", 0, NOISES - 1, BOUNDS, (x, n) -> x.noise(n, 0));
    }

    private static void costAndAt() {
        CHECK.sentence("`int cost(int from, int to) throws IndexOutOfBoundsException`: COST; NONE without a way.");
        bounds("cost(.., 0)", 0, ROOMS - 1, BOUNDS, (x, n) -> x.cost(n, 0));
        bounds("cost(0, ..)", 0, ROOMS - 1, BOUNDS, (x, n) -> x.cost(0, n));
        answers("cost without a way", -1, x -> x.cost(0, 2));
        answers("cost without a way back", -1, x -> x.cost(2, 0));
        answers("cost to itself without a door", 0, x -> x.cost(2, 2));
        CHECK.sentence("`int at(int noise, int room) throws IndexOutOfBoundsException`: How loud a NOISE is AT a ROOM.");
        bounds("at(.., 0)", 0, NOISES - 1, BOUNDS, (x, n) -> x.at(n, 0));
        bounds("at(0, ..)", 0, ROOMS - 1, BOUNDS, (x, n) -> x.at(0, n));
        answers("at without a way", 0, x -> x.at(0, 2));
    }

    private static void title() {
        CHECK.sentence("`int title(int heir, int noise) throws IndexOutOfBoundsException`: TITLE.");
        bounds("title(.., 0)", 0, HEIRS - 1, BOUNDS, (x, n) -> x.title(n, 0));
        bounds("title(0, ..)", 0, NOISES - 1, BOUNDS, (x, n) -> x.title(0, n));
    }

    private static void part() {
        CHECK.sentence("What an HEIR (NONE: THE CHEST) gets of an amount (0 to 99999) that is PARTED by a NOISE. IllegalArgumentException: the amount is none.");
        bounds("part(0, 0, ..)", 0, 99999, ILLEGAL, (x, n) -> x.part(0, 0, n));
        bounds("part(-1, 0, ..)", 0, 99999, ILLEGAL, (x, n) -> x.part(-1, 0, n));
        bounds("part(.., 0, 1)", -1, HEIRS - 1, BOUNDS, (x, n) -> x.part(n, 0, 1));
        bounds("part(0, .., 1)", 0, NOISES - 1, BOUNDS, (x, n) -> x.part(0, n, 1));
        bounds("part(-1, .., 1)", 0, NOISES - 1, BOUNDS, (x, n) -> x.part(-1, n, 1));
        answers("the least amount", 0, x -> x.part(0, CLOCK, 0));
        answers("the greatest amount, for one alone", 99999, x -> x.part(0, BEAST, 99999) + x.part(1, BEAST, 99999));
        answers("the chest of what has titles", 0, x -> x.part(-1, CLOCK, 99999));
    }

    private static void hours() {
        CHECK.sentence("So many HOURS (1 to 240): how many soundings there were. IllegalArgumentException: they are none.");
        bounds("hours(..)", 1, 240, ILLEGAL, (x, n) -> x.hours(n));
        NoiseHouse x = furnished();
        x.hours(1);
        CHECK.due("1 hour", 10, x.count(7));
        x.hours(240);
        CHECK.due("240 hours", 10, x.count(6));
        NoiseHouse y = new NoiseHouse();
        CHECK.due("in a new house", 0, y.hours(240));
    }

    private static void go() {
        CHECK.sentence("An HEIR goes to a ROOM: where one was.");
        bounds("go(.., 0)", 0, HEIRS - 1, BOUNDS, (x, n) -> x.go(n, 0));
        bounds("go(0, ..)", 0, ROOMS - 1, BOUNDS, (x, n) -> x.go(0, n));
        NoiseHouse x = furnished();
        CHECK.due("to where one sits", 1, x.go(0, 1));
        CHECK.due("is an act", 4, x.count(13));
        CHECK.due("without a door", 1, x.go(0, 2));
        CHECK.due("where one was", 2, x.go(0, 0));
    }

    private static void make() {
        CHECK.sentence("A NOISE of KIND 3 is made to sound in the HOUR that comes: whether that is new. IllegalArgumentException: another KIND.");
        for (int noise : new int[] {-1, NOISES, LEAST, MOST}) {
            refused("make(" + noise + ")", BOUNDS, x -> x.make(noise) ? 1 : 0);
        }
        for (int noise : new int[] {CLOCK, WEATHER, BEAST}) {
            refused("make(" + noise + ")", ILLEGAL, x -> x.make(noise) ? 1 : 0);
        }
        NoiseHouse x = furnished();
        CHECK.due("one that was made to", false, x.make(FOOT));
        CHECK.due("one that was not", true, x.make(FOOT + 1));
        CHECK.due("both are acts", 5, x.count(13));
        CHECK.due("both undone", true, x.undo() && x.undo());
        CHECK.due("the one that was made to ahead of them still is", false, x.make(FOOT));
        CHECK.due("the other is new again", true, x.make(FOOT + 1));
    }

    private static void oil() {
        CHECK.sentence("OIL more: how much it has then. IllegalArgumentException: n is not 1 to 99.");
        bounds("oil(0, ..)", 1, 99, ILLEGAL, (x, n) -> x.oil(0, n));
        bounds("oil(.., 1)", 0, NOISES - 1, BOUNDS, (x, n) -> x.oil(n, 1));
        NoiseHouse x = furnished();
        CHECK.due("the least", 3, x.oil(CLOCK, 1));
        CHECK.due("the greatest", 99, x.oil(CLOCK, 99));
    }

    private static void carpet() {
        CHECK.sentence("A CARPET is laid (0: none): what it was. IllegalArgumentException: n is not 0 to 20.");
        bounds("carpet(0, ..)", 0, 20, ILLEGAL, (x, n) -> x.carpet(0, n));
        bounds("carpet(.., 1)", 0, ROOMS - 1, BOUNDS, (x, n) -> x.carpet(n, 1));
        NoiseHouse x = furnished();
        CHECK.due("the greatest", 1, x.carpet(0, 20));
        CHECK.due("none", 20, x.carpet(0, 0));
        CHECK.due("none again", 0, x.carpet(0, 0));
        CHECK.due("all are acts", 6, x.count(13));
    }

    private static void undo() {
        CHECK.sentence("`boolean undo()`: UNDONE: whether there was one.");
        NoiseHouse x = furnished();
        CHECK.due("three", true, x.undo() && x.undo() && x.undo());
        String before = look(x);
        CHECK.due("a fourth", false, x.undo());
        CHECK.due("a fifth", false, x.undo());
        CHECK.same("all behind none", before, look(x));
        CHECK.due("an act behind none", 2, x.oil(CLOCK, 2));
        CHECK.due("undone", true, x.undo());
        CHECK.same("all as ahead of it", before, look(x));
    }

    private static void which() {
        CHECK.sentence("WHICH: ODDS. IllegalArgumentException: the PITCH is not 0 to 99.");
        bounds("odds(0, 0, ..)", 0, 99, ILLEGAL, (x, n) -> x.odds(0, 0, n));
        bounds("odds(.., 0, 0)", 0, NOISES - 1, BOUNDS, (x, n) -> x.odds(n, 0, 0));
        bounds("odds(0, .., 0)", 0, ROOMS - 1, BOUNDS, (x, n) -> x.odds(0, n, 0));
        CHECK.sentence("WHICH: LIKELIEST; NONE. IllegalArgumentException likewise.");
        bounds("likeliest(0, ..)", 0, 99, ILLEGAL, (x, n) -> x.likeliest(0, n));
        bounds("likeliest(.., 0)", 0, ROOMS - 1, BOUNDS, (x, n) -> x.likeliest(n, 0));
        answers("likeliest of none", -1, x -> x.likeliest(0, 99));
        answers("odds of none", 0, x -> x.odds(0, 0, 99));
    }

    private static void winter() {
        CHECK.sentence("DUE for N DAYS. IllegalArgumentException: N is none.");
        bounds("due(0, ..)", 1, 200, ILLEGAL, (x, n) -> x.due(0, n));
        bounds("due(.., 1)", 0, NOISES - 1, BOUNDS, (x, n) -> x.due(n, 1));
        CHECK.sentence("QUIET: the set, as bits. IllegalArgumentException: TARGET or N are none.");
        bounds("quiet(0, .., 1)", 0, 999, ILLEGAL, (x, n) -> x.quiet(0, n, 1));
        bounds("quiet(0, 0, ..)", 1, 200, ILLEGAL, (x, n) -> x.quiet(0, 0, n));
        bounds("quiet(.., 0, 1)", 0, ROOMS - 1, BOUNDS, (x, n) -> x.quiet(n, 0, 1));
    }

    private static void suspects() {
        CHECK.sentence("`int suspects(int noise) throws IndexOutOfBoundsException`: SUSPECTS, as bits.");
        bounds("suspects(..)", 0, NOISES - 1, BOUNDS, (x, n) -> x.suspects(n));
        answers("one that never sounded", 3, x -> x.suspects(FOOT));
    }

    private static void ghost() {
        CHECK.sentence("(of each ROOM two bytes: 97 and the ROOM, and how loud, 0 to 99): how many (what 0), the ROOM (1) or LOUD (2) of the first; NONE without. "
            + "NoSuchElementException: another what; IllegalArgumentException: the TAPE is not that (one at least).");
        for (int what : new int[] {-1, 3, LEAST, MOST}) {
            refusedText("ghost(" + what + ")", "a\1", NO_SUCH, x -> x.ghost(what), 3);
            refusedText("ghost(" + what + ") of none", "", NO_SUCH, x -> x.ghost(what), 3);
            refusedText("ghost(" + what + ") of what is none", "~~~", NO_SUCH, x -> x.ghost(what), 3);
        }
        for (String text : new String[] {"", "a", "a\1b", "`\1", "d\1", "A\1", "\0\1", "\u00e1\1", "a\144", "a\u00ff", "a\u0080", "a\1d\1", "a\1a\144",
            "a\1b\1c\1a\1b\1c\1a\1", " a\1", "room 0"}) {
            for (int what = 0; what < 3; what++) {
                int asked = what;
                refusedText("ghost(" + what + ") of wrong bytes", text, ILLEGAL, x -> x.ghost(asked), 3);
            }
        }
        for (String text : new String[] {"a\0", "a\143", "c\0", "c\143", "a\1b\1c\1a\1b\1c\1"}) {
            NoiseHouse x = furnished();
            Check.write(x, text);
            CHECK.due("ghost(0) of right bytes", true, x.ghost(0) >= 0);
            CHECK.due("the TAPE is used up", false, x.end(1));
            CHECK.due("fault() stays", 3, x.fault());
            CHECK.same("all behind a ghost", PLAIN, fromHereOn(x));
        }
    }

    private static void breach() {
        CHECK.sentence("BREACH (it may be below 0). IllegalArgumentException: N is none.");
        bounds("breach(0, ..)", 0, 20, ILLEGAL, (x, n) -> x.breach(0, n));
        bounds("breach(.., 1)", 0, ROOMS - 1, BOUNDS, (x, n) -> x.breach(n, 1));
        answers("one as there is", 0, x -> x.breach(0, 1));
        for (int n : new int[] {0, 20}) {
            NoiseHouse x = furnished();
            x.breach(0, n);
            x.breach(1, n);
            x.breach(2, n);
            CHECK.same("all behind breaches of " + n, PLAIN, fromHereOn(x));
        }
    }

    private static void silence() {
        CHECK.sentence("SILENCE: rounds (paid false), or what is paid in all; NONE. IllegalArgumentException: N or STEP are none.");
        for (boolean paid : new boolean[] {false, true}) {
            bounds("silence(0, .., 1, " + paid + ")", 1, 200, ILLEGAL, (x, n) -> x.silence(0, n, 1, paid));
            bounds("silence(0, 1, .., " + paid + ")", 1, 999, ILLEGAL, (x, n) -> x.silence(0, 1, n, paid));
            bounds("silence(.., 1, 1, " + paid + ")", 0, ROOMS - 1, BOUNDS, (x, n) -> x.silence(n, 1, 1, paid));
            answers("silence of too many rounds, " + paid, -1, x -> x.silence(0, 200, 1, paid));
        }
    }

    private static void seats() {
        CHECK.sentence("`int ears(int heir, int noise) throws IndexOutOfBoundsException`: EARS.");
        bounds("ears(.., 0)", 0, HEIRS - 1, BOUNDS, (x, n) -> x.ears(n, 0));
        bounds("ears(0, ..)", 0, NOISES - 1, BOUNDS, (x, n) -> x.ears(0, n));
        CHECK.sentence("`int seat(int heir) throws IndexOutOfBoundsException`: SEAT; NONE.");
        bounds("seat(..)", 0, HEIRS - 1, BOUNDS, (x, n) -> x.seat(n));
        CHECK.sentence("`long value(int heir) throws IndexOutOfBoundsException`: VALUE of an HEIR.");
        bounds("value(..)", 0, HEIRS - 1, BOUNDS, (x, n) -> x.value(n));
        CHECK.sentence("`long sale(boolean sum)`: SALE: the buyer (sum false), or the sum; NONE.");
        NoiseHouse x = furnished();
        long buyer = x.sale(false);
        CHECK.due("the sum is the other's value", x.value(buyer == 0 ? 1 : 0), x.sale(true));
        CHECK.same("all behind a sale", PLAIN, fromHereOn(x));
        NoiseHouse y = new NoiseHouse();
        CHECK.house(y, "room 0;noise foot in 0 pitch 1 loud 9 worth 1");
        CHECK.due("none", -1, y.sale(false));
        CHECK.due("none, the sum", -1, y.sale(true));
    }

    private static void seed() {
        CHECK.sentence("`int seed(int n)`: SEED: what it was.");
        NoiseHouse x = new NoiseHouse();
        int before = 1;
        for (int n : new int[] {0, -1, LEAST, MOST, 1}) {
            CHECK.due("seed(" + n + ")", before, x.seed(n));
            before = n;
        }
    }

    private static void image() {
        CHECK.sentence("`void image()`: THE IMAGE is kept.");
        NoiseHouse x = furnished();
        x.image();
        String kept = look(x);
        x.carpet(0, 20);
        CHECK.will(x, "bar 0", 1);
        CHECK.due("back()", true, x.back());
        String again = look(x);
        CHECK.same("as it was kept, but for the acts", kept.substring(kept.indexOf("room")), again.substring(again.indexOf("room")));
        CHECK.sentence("One goes back to THE IMAGE: true; false, and nothing happens, if none was kept.");
        NoiseHouse y = new NoiseHouse();
        CHECK.house(y, "room 0;noise foot in 0 pitch 1 loud 9 worth 1");
        y.oil(0, 5);
        y.seed(7);
        y.feed(1, 2, 3, 4, 5);
        CHECK.due("none was kept", false, y.back());
        CHECK.due("acts stay", 1, y.count(13));
        CHECK.due("oil stays", 5, y.noise(0, 5));
        CHECK.due("seed stays", 7, y.seed(7));
        CHECK.due("the TAPE stays", true, y.end(20));
        CHECK.due("undo", true, y.undo());
    }

    private static void count() {
        CHECK.sentence("13 ACTS that can be UNDONE. NONE for another what.");
        for (int what : new int[] {-1, 14, LEAST, MOST, 256, -256}) {
            answers("count(" + what + ")", -1, x -> x.count(what));
        }
        CHECK.sentence("5 LINES of THE WILL (NONE without one)");
        NoiseHouse x = new NoiseHouse();
        CHECK.due("without one", -1, x.count(5));
        CHECK.will(x, "", 0);
        CHECK.due("an empty one", 0, x.count(5));
        CHECK.sentence("9 1 if there was a STORM in the latest HOUR");
        CHECK.house(x, "stormy 100");
        CHECK.due("ahead of any", 0, x.count(9));
        x.hours(1);
        CHECK.due("a storm", 1, x.count(9));
    }

    private static void order() {
        CHECK.sentence("Of several exceptions the one told first is thrown; a call that throws changes nothing but the TAPE, where it is used up.");
        for (int wrong : new int[] {-2, LEAST, MOST}) {
            refused("room", BOUNDS, x -> x.room(wrong, wrong));
            refused("heir", BOUNDS, x -> x.heir(wrong, wrong));
            refused("noise", BOUNDS, x -> x.noise(wrong, wrong));
            refused("part", BOUNDS, x -> x.part(wrong, wrong, wrong));
            refused("part of an heir", BOUNDS, x -> x.part(wrong, 0, wrong));
            refused("part of a noise", BOUNDS, x -> x.part(0, wrong, wrong));
            refused("part of the chest", BOUNDS, x -> x.part(-1, wrong, wrong));
            refused("make", BOUNDS, x -> x.make(wrong) ? 1 : 0);
            refused("oil", BOUNDS, x -> x.oil(wrong, wrong));
            refused("carpet", BOUNDS, x -> x.carpet(wrong, wrong));
            refused("odds of a noise", BOUNDS, x -> x.odds(wrong, 0, wrong));
            refused("odds in a room", BOUNDS, x -> x.odds(0, wrong, wrong));
            refused("likeliest", BOUNDS, x -> x.likeliest(wrong, wrong));
            refused("due", BOUNDS, x -> x.due(wrong, wrong));
            refused("quiet", BOUNDS, x -> x.quiet(wrong, wrong, wrong));
            refused("breach", BOUNDS, x -> x.breach(wrong, wrong));
            refused("silence", BOUNDS, x -> x.silence(wrong, wrong, wrong, true));
            refused("go", BOUNDS, x -> x.go(wrong, wrong));
        }
        CHECK.sentence("IndexOutOfBoundsException: there is no such ROOM, HEIR, NOISE.");
        NoiseHouse none = new NoiseHouse();
        CHECK.outOfBounds("room", () -> none.room(0, 0));
        CHECK.outOfBounds("heir", () -> none.heir(0, 0));
        CHECK.outOfBounds("noise", () -> none.noise(0, 0));
        CHECK.outOfBounds("cost", () -> none.cost(0, 0));
        CHECK.outOfBounds("at", () -> none.at(0, 0));
        CHECK.outOfBounds("title", () -> none.title(0, 0));
        CHECK.outOfBounds("part of the chest", () -> none.part(-1, 0, 0));
        CHECK.outOfBounds("go", () -> none.go(0, 0));
        CHECK.outOfBounds("make", () -> none.make(0) ? 1 : 0);
        CHECK.outOfBounds("oil", () -> none.oil(0, 1));
        CHECK.outOfBounds("carpet", () -> none.carpet(0, 1));
        CHECK.outOfBounds("odds", () -> none.odds(0, 0, 0));
        CHECK.outOfBounds("likeliest", () -> none.likeliest(0, 0));
        CHECK.outOfBounds("due", () -> none.due(0, 1));
        CHECK.outOfBounds("quiet", () -> none.quiet(0, 0, 1));
        CHECK.outOfBounds("suspects", () -> none.suspects(0));
        CHECK.outOfBounds("breach", () -> none.breach(0, 0));
        CHECK.outOfBounds("silence", () -> none.silence(0, 1, 1, false));
        CHECK.outOfBounds("ears", () -> none.ears(0, 0));
        CHECK.outOfBounds("seat", () -> none.seat(0));
        CHECK.outOfBounds("value", () -> none.value(0));
    }
}
