/** Promises 14 to 19, 24 and 32 to 35: hours, the acts, undo, suspects, seed, image, back, count. */
public final class HourTest {
    private static final Check CHECK = new Check("HourTest");
    private static final int LEAST = Integer.MIN_VALUE;
    private static final int MOST = Integer.MAX_VALUE;

    public static void main(String[] args) {
        clockHours();
        draws();
        weather();
        feet();
        payments();
        titlesOfThen();
        hourBounds();
        go();
        make();
        oil();
        carpet();
        undo();
        undoForgets();
        undoAndSeed();
        suspects();
        suspectsOfFortyHours();
        seed();
        image();
        count();
        CHECK.finish();
    }

    private static void clockHours() {
        NoiseHouse x = new NoiseHouse();
        CHECK.house(x, "room 0;heir in 0 ear 10;noise clock 0 5 23 in 0 pitch 1 loud 10 worth 3;noise clock 5 in 0 pitch 1 loud 9 worth 4");
        CHECK.due("hour 0", 1, x.hours(1));
        CHECK.due("hours 1 to 5", 2, x.hours(5));
        CHECK.due("count(7)", 6, x.count(7));
        CHECK.due("hours 6 to 23", 1, x.hours(18));
        CHECK.due("count(6)", 1, x.count(6));
        CHECK.due("count(7) behind 23", 0, x.count(7));
        CHECK.due("the latest hour", 23, x.noise(0, 7));
        CHECK.due("ten days", 40, x.hours(240));
        CHECK.due("count(6)", 11, x.count(6));
        CHECK.due("how often", 33, x.noise(0, 8));
        CHECK.due("how often one that nobody hears", 11, x.noise(1, 8));
        CHECK.due("soundings", 44, x.count(12));
        CHECK.due("paid to the chest for what was heard", 99, x.count(10));
        CHECK.due("paid", 99, x.count(11));
        CHECK.due("coins", 0, x.heir(0, 2));
    }

    /** SEED is drawn for the STORM, too, and for each beast by numbers. */
    private static void draws() {
        NoiseHouse x = new NoiseHouse();
        CHECK.house(x, "room 0;stormy 40;noise beast 30 in 0 pitch 1 loud 10 worth 3;noise weather in 0 pitch 1 loud 1 worth 1;"
            + "noise beast 0 in 0 pitch 1 loud 10 worth 3;noise beast 70 in 0 pitch 1 loud 10 worth 3;noise beast 100 in 0 pitch 1 loud 1 worth 1");
        int seed = -77;
        x.seed(seed);
        int[] times = new int[5];
        int[] chances = {30, 0, 0, 70, 100};
        for (int hour = 0; hour < 100; hour++) {
            int sounded = 0;
            seed = 1103515245 * seed + 12345;
            boolean storm = (seed >>> 16 & 0x7fff) % 100 < 40;
            for (int noise = 0; noise < 5; noise++) {
                boolean sounds = noise == 1 && storm;
                if (noise != 1) {
                    seed = 1103515245 * seed + 12345;
                    sounds = (seed >>> 16 & 0x7fff) % 100 < chances[noise];
                }
                times[noise] += sounds ? 1 : 0;
                sounded += sounds ? 1 : 0;
            }
            CHECK.due("soundings of hour " + hour, sounded, x.hours(1));
            CHECK.due("storm of hour " + hour, storm ? 1 : 0, x.count(9));
        }
        for (int noise = 0; noise < 5; noise++) {
            CHECK.due("how often " + noise, times[noise], x.noise(noise, 8));
        }
        CHECK.due("SEED behind it", seed, x.seed(0));
        CHECK.due("nobody hears: nothing is paid", 0, x.count(11));
    }

    private static void weather() {
        NoiseHouse x = new NoiseHouse();
        CHECK.house(x, "room 0;heir in 0 ear 1;noise weather in 0 pitch 1 loud 5 worth 2");
        CHECK.due("without storms", 0, x.hours(240));
        CHECK.house(x, "stormy 100");
        CHECK.due("by storms", 24, x.hours(24));
        CHECK.due("count(9)", 1, x.count(9));
        CHECK.due("paid", 48, x.count(11));
        CHECK.house(x, "stormy 0");
        CHECK.due("count(9) till an hour goes by", 1, x.count(9));
        x.hours(1);
        CHECK.due("count(9) behind it", 0, x.count(9));
    }

    private static void feet() {
        NoiseHouse x = new NoiseHouse();
        CHECK.house(x, "room 0;heir in 0 ear 1;noise foot in 0 pitch 1 loud 5 worth 2;noise foot in 0 pitch 1 loud 5 worth 3");
        CHECK.due("not made", 0, x.hours(3));
        x.make(1);
        CHECK.due("made: once", 1, x.hours(5));
        CHECK.due("in the hour that came", 3, x.noise(1, 7));
        CHECK.due("the other one", -1, x.noise(0, 7));
        CHECK.due("paid", 3, x.count(11));
    }

    private static void payments() {
        NoiseHouse x = new NoiseHouse();
        CHECK.house(x, "room 0;heir in 0 ear 10;heir in 0 ear 50;heir in 0 ear 50;noise clock 0 1 2 in 0 pitch 1 loud 10 worth 11;"
            + "noise clock 0 in 0 pitch 2 loud 9 worth 50");
        CHECK.will(x, "to 0 part 1;to 1 part 1;to 2 part 1", 3);
        x.hours(1);
        int[] due = {4, 4, 3};
        for (int heir = 0; heir < 3; heir++) {
            CHECK.due("coins of " + heir + ", heard by one alone", due[heir], x.heir(heir, 2));
        }
        CHECK.due("paid", 11, x.count(11));
        CHECK.due("nothing to the chest", 0, x.count(10));
        CHECK.will(x, "", 0);
        x.hours(1);
        CHECK.due("the chest", 11, x.count(10));
        CHECK.due("paid to the chest, too", 22, x.count(11));
        x.oil(0, 1);
        x.hours(1);
        CHECK.due("what none hears is not paid", 22, x.count(11));
        CHECK.due("but it sounded", 3, x.noise(0, 8));
    }

    private static void titlesOfThen() {
        NoiseHouse x = new NoiseHouse();
        CHECK.house(x, "room 0;heir in 0 ear 1;heir in 0 ear 1;stormy 100;noise clock 0 1 2 3 in 0 pitch 1 loud 10 worth 8");
        CHECK.will(x, "to 0 part 1 if storm and hour < 2;to 1 part 1 if hour > 1 and hour < 3", 2);
        x.hours(4);
        CHECK.due("coins by the storm that is", 16, x.heir(0, 2));
        CHECK.due("coins by the hour of then", 8, x.heir(1, 2));
        CHECK.due("the chest", 8, x.count(10));
    }

    private static void hourBounds() {
        NoiseHouse x = new NoiseHouse();
        for (int n : new int[] {0, -1, 241, LEAST, MOST}) {
            CHECK.illegal("hours(" + n + ")", () -> x.hours(n));
        }
        CHECK.due("no hour went by", 0, x.count(7));
        CHECK.due("SEED as it was", 1, x.seed(1));
        CHECK.due("hours(240)", 0, x.hours(240));
        CHECK.due("hours(1)", 0, x.hours(1));
        CHECK.due("count(6)", 10, x.count(6));
        CHECK.due("count(7)", 1, x.count(7));
    }

    private static NoiseHouse house() {
        NoiseHouse x = new NoiseHouse();
        CHECK.house(x, "room 0;room 3;room 0;door 0 1 5;door 1 2 5;heir in 0 ear 10;heir in 2 ear 10;"
            + "noise clock 0 in 0 pitch 10 loud 30 worth 10;noise foot in 2 pitch 20 loud 40 worth 10");
        return x;
    }

    private static void go() {
        NoiseHouse x = house();
        CHECK.due("go(0, 1)", 0, x.go(0, 1));
        CHECK.due("go(0, 1) again", 1, x.go(0, 1));
        CHECK.due("go(0, 2)", 1, x.go(0, 2));
        CHECK.due("heir(0, 0)", 2, x.heir(0, 0));
        CHECK.due("acts", 3, x.count(13));
        for (int one : new int[] {-1, LEAST, MOST, 3}) {
            CHECK.outOfBounds("go(" + one + ", 0)", () -> x.go(one, 0));
            CHECK.outOfBounds("go(0, " + one + ")", () -> x.go(0, one));
        }
        CHECK.outOfBounds("go(2, 0)", () -> x.go(2, 0));
        CHECK.due("acts behind what threw", 3, x.count(13));
    }

    private static void make() {
        NoiseHouse x = house();
        CHECK.due("make(1)", true, x.make(1));
        CHECK.due("make(1) again", false, x.make(1));
        CHECK.due("acts", 2, x.count(13));
        CHECK.illegal("make(0), a clock", () -> x.make(0) ? 1 : 0);
        CHECK.outOfBounds("make(2)", () -> x.make(2) ? 1 : 0);
        CHECK.outOfBounds("make(-1)", () -> x.make(-1) ? 1 : 0);
        CHECK.due("acts behind what threw", 2, x.count(13));
        x.undo();
        CHECK.due("make(1) of one that still is", false, x.make(1));
        x.undo();
        x.undo();
        CHECK.due("make(1) undone", true, x.make(1));
        x.hours(1);
        CHECK.due("make(1) behind an hour", true, x.make(1));
    }

    private static void oil() {
        NoiseHouse x = house();
        CHECK.due("oil(0, 1)", 1, x.oil(0, 1));
        CHECK.due("oil(0, 97)", 98, x.oil(0, 97));
        CHECK.due("oil(0, 99)", 99, x.oil(0, 99));
        CHECK.due("oil(0, 1) more than it takes", 99, x.oil(0, 1));
        CHECK.due("oil of the other", 0, x.noise(1, 5));
        CHECK.due("acts", 4, x.count(13));
        for (int n : new int[] {0, 100, -1, LEAST, MOST}) {
            CHECK.illegal("oil(0, " + n + ")", () -> x.oil(0, n));
            CHECK.outOfBounds("oil(2, " + n + ")", () -> x.oil(2, n));
        }
        CHECK.due("acts behind what threw", 4, x.count(13));
        x.undo();
        x.undo();
        CHECK.due("oil undone", 98, x.noise(0, 5));
    }

    private static void carpet() {
        NoiseHouse x = house();
        CHECK.due("carpet(1, 20)", 3, x.carpet(1, 20));
        CHECK.due("carpet(1, 0)", 20, x.carpet(1, 0));
        CHECK.due("room(1, 0)", 0, x.room(1, 0));
        CHECK.due("cost by it", 10, x.cost(0, 2));
        CHECK.due("acts", 2, x.count(13));
        for (int n : new int[] {-1, 21, LEAST, MOST}) {
            CHECK.illegal("carpet(0, " + n + ")", () -> x.carpet(0, n));
            CHECK.outOfBounds("carpet(3, " + n + ")", () -> x.carpet(3, n));
        }
        CHECK.outOfBounds("carpet(-1, 0)", () -> x.carpet(-1, 0));
        x.undo();
        CHECK.due("cost, undone", 30, x.cost(0, 2));
        x.undo();
        CHECK.due("cost, all undone", 13, x.cost(0, 2));
    }

    private static void undo() {
        NoiseHouse x = house();
        x.go(1, 0);
        x.oil(1, 5);
        x.carpet(0, 9);
        x.make(1);
        CHECK.due("undo the make", true, x.undo());
        CHECK.due("acts", 3, x.count(13));
        CHECK.due("undo the carpet", true, x.undo());
        CHECK.due("carpet", 0, x.room(0, 0));
        CHECK.due("oil still", 5, x.noise(1, 5));
        CHECK.due("undo the oil", true, x.undo());
        CHECK.due("oil", 0, x.noise(1, 5));
        CHECK.due("heir still", 0, x.heir(1, 0));
        CHECK.due("undo the go", true, x.undo());
        CHECK.due("heir", 2, x.heir(1, 0));
        CHECK.due("undo none", false, x.undo());
        CHECK.due("what was undone does not sound", 1, x.hours(1));
        for (int n = 1; n <= 14; n++) {
            x.oil(0, 1);
        }
        CHECK.due("twelve are remembered", 12, x.count(13));
        for (int n = 1; n <= 12; n++) {
            CHECK.due("undo " + n, true, x.undo());
        }
        CHECK.due("a thirteenth", false, x.undo());
        CHECK.due("what is not undone", 2, x.noise(0, 5));
        x.oil(0, 7);
        CHECK.due("acts", 1, x.count(13));
        CHECK.due("undo behind that", true, x.undo());
        CHECK.due("oil", 2, x.noise(0, 5));
    }

    private static void undoForgets() {
        NoiseHouse x = house();
        x.oil(0, 1);
        CHECK.house(x, "");
        CHECK.due("behind an empty text", false, x.undo());
        x.oil(0, 1);
        CHECK.will(x, "", 0);
        CHECK.due("behind an empty will", false, x.undo());
        x.oil(0, 1);
        x.hours(1);
        CHECK.due("behind an hour", false, x.undo());
        x.oil(0, 1);
        CHECK.due("back() without an image", false, x.back());
        CHECK.due("acts behind it", 1, x.count(13));
        x.image();
        CHECK.due("acts behind image()", 1, x.count(13));
        CHECK.illegal("hours(0)", () -> x.hours(0));
        CHECK.due("acts behind what threw", 1, x.count(13));
        CHECK.due("back()", true, x.back());
        CHECK.due("behind back()", false, x.undo());
        CHECK.due("oil stays", 4, x.noise(0, 5));
    }

    private static void undoAndSeed() {
        NoiseHouse x = house();
        x.seed(11);
        x.oil(0, 1);
        x.seed(22);
        x.oil(0, 1);
        x.feed(1, 2, 3, 4, 5);
        x.seed(33);
        x.undo();
        CHECK.due("SEED as ahead of the act", 22, x.seed(22));
        CHECK.due("the TAPE as it is", true, x.end(20));
        x.undo();
        CHECK.due("SEED as ahead of the first", 11, x.seed(11));
        x.image();
        x.oil(0, 9);
        x.image();
        x.undo();
        CHECK.due("the image is not undone", true, x.back());
        CHECK.due("oil of the image", 9, x.noise(0, 5));
    }

    private static void suspects() {
        NoiseHouse x = new NoiseHouse();
        CHECK.house(x, "room 0;room 0;room 0;room 0;door 0 1 5;door 2 1 5;heir in 0 ear 1;heir in 1 ear 1;heir in 2 ear 1;heir in 3 ear 1;"
            + "noise clock 0 1 2 in 0 pitch 1 loud 9 worth 1;noise foot in 3 pitch 1 loud 9 worth 1;noise clock 0 in 1 pitch 1 loud 9 worth 1");
        CHECK.due("one that never sounded", 15, x.suspects(1));
        CHECK.due("one that never sounded yet", 15, x.suspects(0));
        x.hours(1);
        CHECK.due("its room, or one with a door to it", 3, x.suspects(0));
        CHECK.due("doors either way", 7, x.suspects(2));
        x.go(3, 0);
        CHECK.due("where one sits is told when the hour goes by", 3, x.suspects(0));
        x.hours(1);
        CHECK.due("from the latest hour on", 11, x.suspects(0));
        CHECK.due("from the hour 0 on", 15, x.suspects(2));
        x.go(0, 3);
        x.go(1, 3);
        x.go(3, 3);
        x.hours(1);
        CHECK.due("the latest alone", 0, x.suspects(0));
        x.make(1);
        x.hours(1);
        CHECK.due("one without doors", 11, x.suspects(1));
        CHECK.house(x, "door 3 0 1;heir in 3 ear 1");
        CHECK.due("a door that comes later", 11, x.suspects(0));
        CHECK.due("an heir who came later", 11, x.suspects(1));
        x.hours(1);
        CHECK.due("an heir who was there by then", 27, x.suspects(1));
        for (int noise : new int[] {-1, 3, LEAST, MOST}) {
            CHECK.outOfBounds("suspects(" + noise + ")", () -> x.suspects(noise));
        }
        CHECK.house(x, "noise foot in 3 pitch 1 loud 9 worth 1");
        CHECK.due("all of now", 31, x.suspects(3));
    }

    private static void suspectsOfFortyHours() {
        NoiseHouse x = new NoiseHouse();
        CHECK.house(x, "room 0;room 0;heir in 0 ear 1;heir in 1 ear 1;noise foot in 0 pitch 1 loud 9 worth 1");
        x.make(0);
        x.hours(1);
        x.go(0, 1);
        x.hours(39);
        CHECK.due("the fortieth hour is remembered", 1, x.suspects(0));
        x.hours(1);
        CHECK.due("the one ahead of it is not", 0, x.suspects(0));
        x.go(1, 0);
        x.hours(1);
        x.go(1, 1);
        CHECK.due("an hour that is remembered", 2, x.suspects(0));
        x.image();
        x.hours(40);
        CHECK.due("an hour that is not", 0, x.suspects(0));
        x.back();
        CHECK.due("as in the image", 2, x.suspects(0));
    }

    private static void seed() {
        NoiseHouse x = new NoiseHouse();
        CHECK.due("seed at first", 1, x.seed(-5));
        CHECK.due("seed then", -5, x.seed(MOST));
        CHECK.due("seed then", MOST, x.seed(LEAST));
        CHECK.due("seed then", LEAST, x.seed(1));
        x.hours(1);
        CHECK.due("seed behind an hour", 1103515245 + 12345, x.seed(1));
        CHECK.due("it is no act", 0, x.count(13));
    }

    private static void image() {
        NoiseHouse x = house();
        CHECK.due("back() ahead of an image", false, x.back());
        CHECK.will(x, "to 0 part 1 if hour < 1;to 1 part 2", 2);
        x.make(1);
        x.oil(0, 2);
        x.seed(99);
        x.image();
        x.go(0, 2);
        x.carpet(1, 20);
        CHECK.house(x, "room 7;heir in 3 ear 1;noise clock 1 in 3 pitch 1 loud 9 worth 1;stormy 100;door 3 2 1");
        CHECK.will(x, "bar 1", 1);
        x.hours(30);
        x.feed(1, 2, 3, 4, 5);
        CHECK.due("back()", true, x.back());
        CHECK.due("the TAPE stays", true, x.end(20));
        int[] due = {3, 2, 2, 2, 1, 2, 0, 0, 0, 0, 0, 0, 0, 0};
        for (int what = 0; what < due.length; what++) {
            CHECK.due("count(" + what + ") of the image", due[what], x.count(what));
        }
        CHECK.due("cost", 13, x.cost(0, 2));
        CHECK.due("heir", 0, x.heir(0, 0));
        CHECK.due("title by the will of the image", 2, x.title(1, 0));
        CHECK.due("title by the will of the image", 1, x.title(0, 0));
        CHECK.due("noise(0, 7)", -1, x.noise(0, 7));
        CHECK.due("seed", 99, x.seed(99));
        CHECK.due("the clock, and what was made", 2, x.hours(1));
        CHECK.due("coins", 14, x.heir(1, 2));
        CHECK.due("back() again", true, x.back());
        CHECK.due("coins", 0, x.heir(1, 2));
        x.oil(0, 5);
        x.image();
        x.oil(0, 5);
        x.back();
        CHECK.due("an image in place of the one before", 7, x.noise(0, 5));
        NoiseHouse y = new NoiseHouse();
        y.image();
        CHECK.will(y, "bar 0", 1);
        y.back();
        CHECK.due("an image without a will", -1, y.count(5));
    }

    private static void count() {
        NoiseHouse x = house();
        for (int what : new int[] {-1, 14, LEAST, MOST}) {
            CHECK.due("count(" + what + ")", -1, x.count(what));
        }
        CHECK.will(x, "to 0 part 1", 1);
        CHECK.house(x, "stormy 100");
        x.make(1);
        x.hours(26);
        x.oil(0, 1);
        int[] due = {3, 2, 2, 2, 2, 1, 1, 2, 100, 1, 0, 30, 3, 1};
        for (int what = 0; what < due.length; what++) {
            CHECK.due("count(" + what + ")", due[what], x.count(what));
        }
    }
}
