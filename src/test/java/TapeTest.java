/** Promises 1 to 4 and 6: a new object, feed, end, house, fault. */
public final class TapeTest {
    private static final Check CHECK = new Check("TapeTest");

    public static void main(String[] args) {
        newObject();
        feed();
        end();
        bytesAreInOrder();
        house();
        houseWords();
        wrongHouses();
        tooMany();
        tenTexts();
        nothingOfAWrongTextStays();
        fault();
        CHECK.finish();
    }

    private static void newObject() {
        NoiseHouse x = new NoiseHouse();
        int[] due = {0, 0, 0, 0, 0, -1, 0, 0, 0, 0, 0, 0, 0, 0};
        for (int what = 0; what < due.length; what++) {
            CHECK.due("count(" + what + ") of a new object", due[what], x.count(what));
        }
        CHECK.due("fault() of a new object", -1, x.fault());
        CHECK.due("undo() of a new object", false, x.undo());
        CHECK.due("back() of a new object", false, x.back());
        CHECK.due("sale(false) of a new object", -1, x.sale(false));
        CHECK.due("sale(true) of a new object", -1, x.sale(true));
        CHECK.outOfBounds("room(0, 0)", () -> x.room(0, 0));
        CHECK.outOfBounds("heir(0, 0)", () -> x.heir(0, 0));
        CHECK.outOfBounds("noise(0, 0)", () -> x.noise(0, 0));
        CHECK.due("end(0) of a new object", true, x.end(0));
        CHECK.due("end(1) of a new object", false, x.end(1));
        CHECK.due("seed(5) of a new object", 1, x.seed(5));
        CHECK.due("NONE", -1, NoiseHouse.NONE);
    }

    private static void feed() {
        NoiseHouse x = new NoiseHouse();
        for (int n = 1; n <= 20; n++) {
            CHECK.due("feed " + n, 20 * n, x.feed(n, 0, 0, 0, 0));
        }
        CHECK.due("feed to 420", -1, x.feed(1, 0, 0, 0, 0));
        CHECK.due("end(400) behind it", true, x.end(400));
        CHECK.due("end(381)", true, x.end(381));
        CHECK.due("feed to 401", -1, x.feed(1, 0, 0, 0, 0));
        CHECK.due("end(380)", true, x.end(380));
        CHECK.due("feed to 400", 400, x.feed(1, 0, 0, 0, 0));
    }

    private static void end() {
        NoiseHouse x = new NoiseHouse();
        x.feed(0, 0, 0, 0, 0);
        CHECK.due("end(21) of 20", false, x.end(21));
        CHECK.due("end(-1)", false, x.end(-1));
        CHECK.due("end(least)", false, x.end(Integer.MIN_VALUE));
        CHECK.due("end(20) of 20", true, x.end(20));
        CHECK.due("end(7)", true, x.end(7));
        CHECK.due("end(8) of 7", false, x.end(8));
        CHECK.due("feed behind 7", 27, x.feed(0, 0, 0, 0, 0));
        CHECK.due("end(0)", true, x.end(0));
        CHECK.due("feed behind none", 20, x.feed(0, 0, 0, 0, 0));
    }

    private static void bytesAreInOrder() {
        NoiseHouse x = new NoiseHouse();
        // "room" " 12;" "room" "   3" " ; r"
        CHECK.due("feed", 20, x.feed(0x726f6f6d, 0x2031323b, 0x726f6f6d, 0x20202033, 0x203b2072));
        CHECK.due("end(16)", true, x.end(16));
        CHECK.due("house()", 1, x.house());
        CHECK.due("room(0, 0)", 12, x.room(0, 0));
        CHECK.due("room(1, 0)", 3, x.room(1, 0));
    }

    private static void house() {
        NoiseHouse x = new NoiseHouse();
        CHECK.house(x, "room 0;room 20;door 0 1 1;door 1 0 30;heir in 0 ear 1;heir in 1 ear 50;stormy 100;"
            + "noise clock 0 23 5 5 in 0 pitch 0 loud 1 worth 0;noise beast 100 in 1 pitch 99 loud 99 worth 99");
        int[] due = {2, 2, 2, 2, 1, -1, 0, 0, 100};
        for (int what = 0; what < due.length; what++) {
            CHECK.due("count(" + what + ")", due[what], x.count(what));
        }
        CHECK.due("clock's bits", 1 | 1 << 23 | 1 << 5, x.noise(0, 6));
        CHECK.due("beast's chance", 100, x.noise(1, 6));
        CHECK.house(x, "carpet 1 7;noise weather in 1 pitch 1 loud 2 worth 3;noise foot in 0 pitch 4 loud 5 worth 6;stormy 0");
        CHECK.due("count(4)", 2, x.count(4));
        CHECK.due("the carpet of a text", 7, x.room(1, 0));
        CHECK.due("stormy again", 0, x.count(8));
        CHECK.due("weather's kind", 1, x.noise(2, 0));
        CHECK.due("foot's kind", 3, x.noise(3, 0));
        Check.write(x, "");
        CHECK.due("house() of none", 3, x.house());
        Check.write(x, "    ");
        CHECK.due("house() of blanks", 4, x.house());
        CHECK.due("fault() of blanks", -1, x.fault());
        CHECK.due("the TAPE is used up", false, x.end(1));
    }

    private static void houseWords() {
        NoiseHouse x = new NoiseHouse();
        CHECK.house(x, "  room0;room   007 ;room 1;door 0 1 2;heir in2ear5  ;noise clock1 2 in 0pitch3loud4worth 05  ");
        CHECK.due("room 007", 7, x.room(1, 0));
        CHECK.due("in2", 2, x.heir(0, 0));
        CHECK.due("ear5", 5, x.heir(0, 1));
        CHECK.due("clock1 2", 6, x.noise(0, 6));
        CHECK.due("loud4", 4, x.noise(0, 3));
        CHECK.due("worth 05", 5, x.noise(0, 4));
        CHECK.house(x, "noise clock 23 0 in 0 pitch 1 loud 1 worth 1");
        CHECK.due("clock 23 0", 1 | 1 << 23, x.noise(1, 6));
        CHECK.wrongHouse(x, "roomy 0", 0);
        CHECK.wrongHouse(x, "roomz 0", 0);
        CHECK.wrongHouse(x, "rooma 0", 0);
        CHECK.wrongHouse(x, "boom 0", 0);
        CHECK.wrongHouse(x, "rook 0", 0);
        CHECK.wrongHouse(x, "roo 0", 0);
        CHECK.wrongHouse(x, "  Room 0", 2);
        CHECK.wrongHouse(x, "room\t0", 4);
        CHECK.wrongHouse(x, "room \u00e9", 5);
        CHECK.wrongHouse(x, "room 0 \0", 7);
    }

    private static void wrongHouses() {
        NoiseHouse x = new NoiseHouse();
        CHECK.house(x, "room 0;room 0");
        CHECK.wrongHouse(x, "room", 4);
        CHECK.wrongHouse(x, "room   ", 7);
        CHECK.wrongHouse(x, "room 0;", 7);
        CHECK.wrongHouse(x, "room 0;  ", 9);
        CHECK.wrongHouse(x, ";", 0);
        CHECK.wrongHouse(x, "room 0;;room 0", 7);
        CHECK.wrongHouse(x, "room 21", 5);
        CHECK.wrongHouse(x, "room 0000", 5);
        CHECK.wrongHouse(x, "room 4294967296", 5);
        CHECK.wrongHouse(x, "room -1", 5);
        CHECK.wrongHouse(x, "room 0 0", 7);
        CHECK.wrongHouse(x, "room 0 room 0", 7);
        CHECK.wrongHouse(x, "door 2 0 1", 5);
        CHECK.wrongHouse(x, "door 0 2 1", 7);
        CHECK.wrongHouse(x, "door 1 1 1", 7);
        CHECK.wrongHouse(x, "door 1 001 1", 7);
        CHECK.wrongHouse(x, "door 0 1 0", 9);
        CHECK.wrongHouse(x, "door 0 1 31", 9);
        CHECK.wrongHouse(x, "door 0 1", 8);
        CHECK.wrongHouse(x, "heir at 0 ear 1", 5);
        CHECK.wrongHouse(x, "heir in 2 ear 1", 8);
        CHECK.wrongHouse(x, "heir in 1 eye 1", 10);
        CHECK.wrongHouse(x, "heir in 1 ear 0", 14);
        CHECK.wrongHouse(x, "heir in 1 ear 51", 14);
        CHECK.wrongHouse(x, "noise mouse in 0 pitch 1 loud 1 worth 1", 6);
        CHECK.wrongHouse(x, "noise clock in 0 pitch 1 loud 1 worth 1", 12);
        CHECK.wrongHouse(x, "noise clock 24 in 0 pitch 1 loud 1 worth 1", 12);
        CHECK.wrongHouse(x, "noise clock 1 24 in 0 pitch 1 loud 1 worth 1", 14);
        CHECK.wrongHouse(x, "noise weather 1 in 0 pitch 1 loud 1 worth 1", 14);
        CHECK.wrongHouse(x, "noise beast in 0 pitch 1 loud 1 worth 1", 12);
        CHECK.wrongHouse(x, "noise beast 101 in 0 pitch 1 loud 1 worth 1", 12);
        CHECK.wrongHouse(x, "noise beast 1 2 in 0 pitch 1 loud 1 worth 1", 14);
        CHECK.wrongHouse(x, "noise foot in 2 pitch 1 loud 1 worth 1", 14);
        CHECK.wrongHouse(x, "noise foot in 0 pitch 100 loud 1 worth 1", 22);
        CHECK.wrongHouse(x, "noise foot in 0 pitch 1 loud 0 worth 1", 29);
        CHECK.wrongHouse(x, "noise foot in 0 pitch 1 loud 100 worth 1", 29);
        CHECK.wrongHouse(x, "noise foot in 0 pitch 1 loud 1 worth 100", 37);
        CHECK.wrongHouse(x, "noise foot in 0 loud 1 pitch 1 worth 1", 16);
        CHECK.wrongHouse(x, "stormy 101", 7);
        CHECK.wrongHouse(x, "stormy", 6);
        CHECK.wrongHouse(x, "carpet 2 0", 7);
        CHECK.wrongHouse(x, "carpet 1 21", 9);
        CHECK.wrongHouse(x, "to 0 part 1", 0);
        CHECK.due("count(0) behind wrong texts", 2, x.count(0));
        CHECK.due("count(4) behind wrong texts", 1, x.count(4));
    }

    private static void tooMany() {
        NoiseHouse x = new NoiseHouse();
        CHECK.wrongHouse(x, "stormy 1;".repeat(14) + "stormy 1", 126);
        CHECK.wrongHouse(x, "stormy 1;".repeat(14) + "  rug", 128);
        CHECK.wrongHouse(x, "stormy 1;".repeat(14), 126);
        CHECK.house(x, "stormy 1;".repeat(13) + "stormy 2");
        CHECK.due("fourteen lines", 2, x.count(8));
        CHECK.house(x, "room 0;".repeat(9) + "room 0");
        CHECK.wrongHouse(x, "stormy 3; room x", 10);
        CHECK.house(x, "door 0 1 1;".repeat(13) + "door 2 1 1");
        CHECK.wrongHouse(x, "door 0 0 0", 0);
        CHECK.house(x, "heir in 9 ear 9;".repeat(5) + "heir in 9 ear 9");
        CHECK.wrongHouse(x, "stormy 3;heir in 9 ear 9", 9);
        CHECK.house(x, "noise foot in 9 pitch 9 loud 9 worth 9;".repeat(5) + "noise foot in 9 pitch 9 loud 9 worth 9");
        CHECK.house(x, "noise foot in 9 pitch 9 loud 9 worth 9;".repeat(5) + "noise foot in 9 pitch 9 loud 9 worth 9");
        CHECK.wrongHouse(x, "noise", 0);
        CHECK.due("ten rooms", 10, x.count(0));
        CHECK.due("fourteen doors", 14, x.count(1));
        CHECK.due("six heirs", 6, x.count(2));
        CHECK.due("twelve noises", 12, x.count(3));
        CHECK.due("stormy as it was", 2, x.count(8));
    }

    private static void tenTexts() {
        NoiseHouse x = new NoiseHouse();
        for (int text = 1; text <= 10; text++) {
            Check.write(x, "stormy " + text);
            CHECK.due("house() " + text, text, x.house());
        }
        Check.write(x, "stormy 101");
        CHECK.illegal("a wrong text behind ten", x::house);
        CHECK.due("its fault()", 7, x.fault());
        x.seed(3);
        Check.write(x, "room 1;stormy 50");
        CHECK.refused("an eleventh text", UnsupportedOperationException.class, x::house);
        CHECK.due("fault() of one that is right", -1, x.fault());
        CHECK.due("the TAPE is used up", false, x.end(1));
        CHECK.due("count(4)", 10, x.count(4));
        CHECK.due("count(8)", 10, x.count(8));
        CHECK.due("count(0)", 0, x.count(0));
        Check.write(x, "");
        CHECK.refused("an empty eleventh text", UnsupportedOperationException.class, x::house);
    }

    private static void nothingOfAWrongTextStays() {
        NoiseHouse x = new NoiseHouse();
        CHECK.house(x, "room 1;room 2;door 0 1 3;heir in 0 ear 4;noise foot in 1 pitch 1 loud 50 worth 1;stormy 5");
        x.oil(0, 3);
        CHECK.wrongHouse(x, "room 1;door 2 1 1;heir in 2 ear 1;carpet 1 20;stormy 9;noise clock 1 in 2 pitch 1 loud 1 worth 1;rug", 97);
        int[] due = {2, 1, 1, 1, 1, -1, 0, 0, 5, 0, 0, 0, 0, 1};
        for (int what = 0; what < due.length; what++) {
            CHECK.due("count(" + what + ")", due[what], x.count(what));
        }
        CHECK.due("carpet", 2, x.room(1, 0));
        CHECK.due("cost", 5, x.cost(0, 1));
        CHECK.due("undo() behind a wrong text", true, x.undo());
        CHECK.due("oil", 0, x.noise(0, 5));
        CHECK.house(x, "noise clock 1 in 1 pitch 1 loud 1 worth 1");
        CHECK.due("a new noise's latest", -1, x.noise(1, 7));
    }

    private static void fault() {
        NoiseHouse x = new NoiseHouse();
        CHECK.wrongHouse(x, "stormy x", 7);
        x.feed(0, 0, 0, 0, 0);
        CHECK.due("fault() stays", 7, x.fault());
        CHECK.illegal("ghost(0)", () -> x.ghost(0));
        CHECK.due("fault() stays behind a ghost", 7, x.fault());
        CHECK.will(x, "to 0 part 1", 1);
        CHECK.due("fault() of a right will", -1, x.fault());
        CHECK.wrongWill(x, "to 9", 3);
        x.image();
        x.back();
        CHECK.due("fault() is not gone back to", 3, x.fault());
        CHECK.house(x, "room 1");
    }
}
