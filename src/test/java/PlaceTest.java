/** Promises 7 to 11: room, heir, noise, cost, at. */
public final class PlaceTest {
    private static final Check CHECK = new Check("PlaceTest");
    private static final int LEAST = Integer.MIN_VALUE;
    private static final int MOST = Integer.MAX_VALUE;

    public static void main(String[] args) {
        room();
        heir();
        noise();
        cost();
        at();
        CHECK.finish();
    }

    private static NoiseHouse house() {
        NoiseHouse x = new NoiseHouse();
        CHECK.house(x, "room 0;room 2;room 4;room 6;door 0 1 5;door 1 2 9;door 2 1 3;door 0 2 20;"
            + "heir in 0 ear 20;heir in 2 ear 7;heir in 0 ear 21;noise clock 3 4 in 1 pitch 20 loud 27 worth 10");
        CHECK.house(x, "noise weather in 0 pitch 1 loud 20 worth 7;noise foot in 3 pitch 2 loud 99 worth 1");
        return x;
    }

    private static void room() {
        NoiseHouse x = house();
        CHECK.due("carpet of 3", 6, x.room(3, 0));
        CHECK.due("doors of 1, two to one room", 3, x.room(1, 1));
        CHECK.due("doors of 2", 3, x.room(2, 1));
        CHECK.due("doors of 3", 0, x.room(3, 1));
        CHECK.due("heirs in 0", 2, x.room(0, 2));
        CHECK.due("heirs in 1", 0, x.room(1, 2));
        CHECK.due("loudness of 0", 20 + 20, x.room(0, 3));
        CHECK.due("loudness of 2", 18 + 6, x.room(2, 3));
        CHECK.due("loudness of 3", 93, x.room(3, 3));
        for (int what : new int[] {-1, 4, LEAST, MOST}) {
            CHECK.noSuch("room(0, " + what + ")", () -> x.room(0, what));
            CHECK.outOfBounds("room(4, " + what + ")", () -> x.room(4, what));
        }
        for (int room : new int[] {-1, 4, LEAST, MOST}) {
            CHECK.outOfBounds("room(" + room + ", 0)", () -> x.room(room, 0));
        }
    }

    private static void heir() {
        NoiseHouse x = house();
        CHECK.due("room of 1", 2, x.heir(1, 0));
        CHECK.due("ear of 1", 7, x.heir(1, 1));
        CHECK.due("coins of 1", 0, x.heir(1, 2));
        CHECK.due("heard by 0, just so loud", 3, x.heir(0, 3));
        CHECK.due("heard by 1", 1, x.heir(1, 3));
        CHECK.due("heard by 2", 0, x.heir(2, 3));
        x.go(2, 3);
        CHECK.due("heard by 2 in 3", 4, x.heir(2, 3));
        for (int what : new int[] {-1, 4, LEAST, MOST}) {
            CHECK.noSuch("heir(0, " + what + ")", () -> x.heir(0, what));
            CHECK.outOfBounds("heir(3, " + what + ")", () -> x.heir(3, what));
        }
        for (int heir : new int[] {-1, 3, LEAST, MOST}) {
            CHECK.outOfBounds("heir(" + heir + ", 0)", () -> x.heir(heir, 0));
        }
    }

    private static void noise() {
        NoiseHouse x = house();
        int[][] due = {{0, 1, 20, 27, 10, 0, 24, -1, 0}, {1, 0, 1, 20, 7, 0, 0, -1, 0}, {3, 3, 2, 99, 1, 0, 0, -1, 0}};
        for (int noise = 0; noise < 3; noise++) {
            for (int what = 0; what < 9; what++) {
                CHECK.due("noise(" + noise + ", " + what + ")", due[noise][what], x.noise(noise, what));
            }
        }
        x.oil(1, 5);
        x.hours(28);
        CHECK.due("oil of 1", 5, x.noise(1, 5));
        CHECK.due("the latest hour of 0", 27, x.noise(0, 7));
        CHECK.due("how often 0", 3, x.noise(0, 8));
        CHECK.due("how often 1", 0, x.noise(1, 8));
        for (int what : new int[] {-1, 9, LEAST, MOST}) {
            CHECK.noSuch("noise(0, " + what + ")", () -> x.noise(0, what));
            CHECK.outOfBounds("noise(3, " + what + ")", () -> x.noise(3, what));
        }
        for (int noise : new int[] {-1, 3, LEAST, MOST}) {
            CHECK.outOfBounds("noise(" + noise + ", 0)", () -> x.noise(noise, 0));
        }
    }

    private static void cost() {
        NoiseHouse x = house();
        CHECK.due("cost(0, 1)", 5 + 2, x.cost(0, 1));
        CHECK.due("cost(1, 0)", 5, x.cost(1, 0));
        CHECK.due("cost(0, 2), by 1", 7 + 3 + 4, x.cost(0, 2));
        CHECK.due("cost(2, 0), by 1", 3 + 2 + 5, x.cost(2, 0));
        CHECK.due("cost(1, 2), by the lesser door", 3 + 4, x.cost(1, 2));
        CHECK.due("cost(2, 2)", 0, x.cost(2, 2));
        CHECK.due("cost(0, 3)", -1, x.cost(0, 3));
        CHECK.due("cost(3, 0)", -1, x.cost(3, 0));
        CHECK.due("cost(3, 3)", 0, x.cost(3, 3));
        x.carpet(1, 20);
        CHECK.due("cost(0, 2) past a thick carpet", 20 + 4, x.cost(0, 2));
        CHECK.house(x, "door 3 0 1;carpet 2 0");
        CHECK.due("cost(3, 2)", 1 + 20, x.cost(3, 2));
        for (int room : new int[] {-1, 4, LEAST, MOST}) {
            CHECK.outOfBounds("cost(" + room + ", 0)", () -> x.cost(room, 0));
            CHECK.outOfBounds("cost(0, " + room + ")", () -> x.cost(0, room));
        }
        NoiseHouse y = new NoiseHouse();
        CHECK.house(y, "room 20;room 20;room 20;room 20;room 20;room 20;room 20;room 20;room 20;room 20");
        CHECK.house(y, "door 0 1 30;door 1 2 30;door 2 3 30;door 3 4 30;door 4 5 30;door 5 6 30;door 6 7 30;door 7 8 30;door 8 9 30");
        CHECK.due("the longest way", 450, y.cost(0, 9));
    }

    private static void at() {
        NoiseHouse x = house();
        CHECK.due("at(0, 1): less its own carpet", 25, x.at(0, 1));
        CHECK.due("at(0, 0)", 20, x.at(0, 0));
        CHECK.due("at(0, 2)", 18, x.at(0, 2));
        CHECK.due("at(0, 3): no way", 0, x.at(0, 3));
        CHECK.due("at(2, 0): no way", 0, x.at(2, 0));
        CHECK.due("at(1, 1)", 13, x.at(1, 1));
        x.oil(1, 15);
        CHECK.due("at(1, 1), oiled: not below 0", 0, x.at(1, 1));
        CHECK.due("at(1, 0), oiled", 5, x.at(1, 0));
        x.oil(1, 99);
        CHECK.due("at(1, 0), oiled more", 0, x.at(1, 0));
        for (int one : new int[] {-1, LEAST, MOST}) {
            CHECK.outOfBounds("at(" + one + ", 0)", () -> x.at(one, 0));
            CHECK.outOfBounds("at(0, " + one + ")", () -> x.at(0, one));
        }
        CHECK.outOfBounds("at(3, 0)", () -> x.at(3, 0));
        CHECK.outOfBounds("at(0, 4)", () -> x.at(0, 4));
    }
}
