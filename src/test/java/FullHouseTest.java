/** A house in which all is full at once: ten rooms, fourteen doors, six heirs, twelve noises, twelve lines of a will, a full TAPE; each call on it. */
public final class FullHouseTest {
    private static final Check CHECK = new Check("FullHouseTest");
    private static final long DAY_DUE = 2400 * 99;

    public static void main(String[] args) {
        counts();
        places();
        titles();
        hours();
        suspects();
        questions();
        winters();
        seats();
        ghosts();
        actsAndImage();
        CHECK.finish();
    }

    /** A ring of rooms with a hold of 1, four more doors across it; each noise always sounds and is heard by all. */
    private static NoiseHouse full() {
        NoiseHouse x = new NoiseHouse();
        CHECK.house(x, "room 0;".repeat(9) + "room 0");
        CHECK.house(x, "door 0 1 1;door 1 2 1;door 2 3 1;door 3 4 1;door 4 5 1;door 5 6 1;door 6 7 1;door 7 8 1;door 8 9 1;door 9 0 1;"
            + "door 0 5 30;door 5 0 30;door 0 5 30;door 5 0 30");
        CHECK.house(x, "heir in 0 ear 50;heir in 1 ear 50;heir in 2 ear 50;heir in 3 ear 50;heir in 4 ear 50;heir in 5 ear 50");
        for (int half = 0; half < 12; half += 6) {
            StringBuilder text = new StringBuilder();
            for (int noise = half; noise < half + 6; noise++) {
                text.append(noise == half ? "" : ";").append("noise beast 100 in ").append(noise % 10).append(" pitch 50 loud 99 worth 99");
            }
            CHECK.house(x, text.toString());
        }
        StringBuilder will = new StringBuilder();
        for (int heir = 0; heir < 6; heir++) {
            will.append("to ").append(heir).append(" part 1;to ").append(heir).append(" part 2 if noise > 5").append(heir == 5 ? "" : ";");
        }
        CHECK.will(x, will.toString(), 12);
        return x;
    }

    private static int ring(int one, int other) {
        int off = Math.abs(one - other);
        return Math.min(off, 10 - off);
    }

    private static void counts() {
        NoiseHouse x = full();
        int[] due = {10, 14, 6, 12, 5, 12, 0, 0, 0, 0, 0, 0, 0, 0};
        for (int what = 0; what < due.length; what++) {
            CHECK.due("count(" + what + ")", due[what], x.count(what));
        }
        for (String text : new String[] {"room 0", "door 0 1 1", "heir in 0 ear 1", "noise foot in 0 pitch 1 loud 1 worth 1"}) {
            CHECK.wrongHouse(x, text, 0);
        }
        for (int what = 0; what < due.length; what++) {
            CHECK.due("count(" + what + ") behind one too many", due[what], x.count(what));
        }
    }

    private static void places() {
        NoiseHouse x = full();
        for (int from = 0; from < 10; from++) {
            CHECK.due("heirs in " + from, from < 6 ? 1 : 0, x.room(from, 2));
            CHECK.due("doors of " + from, from % 5 == 0 ? 6 : 2, x.room(from, 1));
            CHECK.due("loudness of " + from, 12 * 99 - 25 - ring(from, 0) - ring(from, 1), x.room(from, 3));
            for (int to = 0; to < 10; to++) {
                CHECK.due("cost(" + from + ", " + to + ")", ring(from, to), x.cost(from, to));
                CHECK.due("at(" + from + ", " + to + ")", 99 - ring(from, to), x.at(from, to));
            }
        }
        for (int heir = 0; heir < 6; heir++) {
            CHECK.due("heard by " + heir, 4095, x.heir(heir, 3));
            CHECK.due("go", heir, x.go(heir, 9));
        }
        CHECK.due("all in one room", 6, x.room(9, 2));
        CHECK.due("none in another", 0, x.room(5, 2));
    }

    private static void titles() {
        NoiseHouse x = full();
        for (int heir = 0; heir < 6; heir++) {
            for (int noise = 0; noise < 12; noise++) {
                CHECK.due("title(" + heir + ", " + noise + ")", noise > 5 ? 3 : 1, x.title(heir, noise));
                CHECK.due("part(" + heir + ", " + noise + ")", heir < 3 ? 17 : 16, x.part(heir, noise, 99));
            }
        }
        CHECK.due("part of the chest", 0, x.part(-1, 11, 99999));
    }

    private static void hours() {
        NoiseHouse x = full();
        CHECK.due("soundings", 240 * 12, x.hours(240));
        for (int heir = 0; heir < 6; heir++) {
            CHECK.due("coins of " + heir, 240 * 12 * (heir < 3 ? 17 : 16), x.heir(heir, 2));
        }
        CHECK.due("paid", 240 * 12 * 99, x.count(11));
        CHECK.due("the chest", 0, x.count(10));
        for (int noise = 0; noise < 12; noise++) {
            CHECK.due("how often " + noise, 240, x.noise(noise, 8));
            CHECK.due("the latest of " + noise, 239, x.noise(noise, 7));
        }
        for (int more = 1; more < 300; more++) {
            x.hours(240);
        }
        CHECK.due("coins of a long run", 300 * 240 * 12 * 17, x.heir(0, 2));
        CHECK.due("paid in a long run", 300 * 240 * 12 * 99, x.count(11));
        CHECK.due("soundings of a long run", 300 * 240 * 12, x.count(12));
        CHECK.due("days of a long run", 3000, x.count(6));
    }

    private static void suspects() {
        NoiseHouse x = full();
        CHECK.due("all, ahead of any hour", 63, x.suspects(11));
        x.hours(100);
        int[] due = {1 | 2 | 32, 7, 14, 28, 56, 1 | 16 | 32, 32, 0, 0, 1, 1 | 2 | 32, 7};
        for (int noise = 0; noise < 12; noise++) {
            CHECK.due("suspects(" + noise + ")", due[noise], x.suspects(noise));
        }
        for (int heir = 0; heir < 6; heir++) {
            x.go(heir, 9);
        }
        x.hours(1);
        CHECK.due("all in the last room", 63, x.suspects(9));
        CHECK.due("all by a door", 63, x.suspects(8));
        CHECK.due("all by a door to the first", 63, x.suspects(10));
        CHECK.due("none by a door", 0, x.suspects(5));
    }

    private static void questions() {
        NoiseHouse x = full();
        CHECK.due("odds of the first", 10000 * 99 / 1162, x.odds(0, 0, 50));
        CHECK.due("odds of the last", 10000 * 98 / 1162, x.odds(11, 0, 50));
        CHECK.due("likeliest in the last room", 9, x.likeliest(9, 50));
        CHECK.due("likeliest in the first room, the lesser of two", 0, x.likeliest(0, 50));
        CHECK.due("quiet, to nothing", 4095, x.quiet(0, 0, 200));
        CHECK.due("quiet, to 999", 3, x.quiet(0, 999, 200));
        CHECK.due("quiet in the last room, to 94", 4095 - 16, x.quiet(9, 94, 1));
        CHECK.due("quiet in the last room, to 93", 4095, x.quiet(9, 93, 1));
        // the heirs are 0 to 5 rooms off
        CHECK.due("ears of the nearest", 100 * 99 / 579, x.ears(0, 0));
        CHECK.due("ears of the farthest", 100 * 94 / 579, x.ears(5, 0));
        CHECK.due("ears of the last noise", 100 * 95 / (594 - 1 - 1 - 2 - 3 - 4), x.ears(5, 11));
    }

    private static void winters() {
        NoiseHouse x = full();
        for (int noise = 0; noise < 12; noise++) {
            CHECK.due("due of " + noise, 200 * DAY_DUE, x.due(noise, 200));
        }
        CHECK.due("silence", 238, x.silence(0, 1, 999, false));
        CHECK.due("silence, paid", 12 * 238 * 999, x.silence(0, 1, 999, true));
        CHECK.due("no breach", 0, x.breach(9, 20));
        for (int noise = 0; noise < 12; noise++) {
            x.oil(noise, 40);
        }
        // 59 is heard in its own room, and up to 9 off; on a carpet of 20 it is not
        CHECK.due("a breach in the last room", 10 * DAY_DUE, x.breach(9, 20));
        CHECK.due("a breach of two noises", 20 * DAY_DUE, x.breach(0, 20));
        CHECK.due("what is due stays", 10 * DAY_DUE, x.due(0, 10));
    }

    private static void seats() {
        NoiseHouse x = full();
        for (int heir = 0; heir < 6; heir++) {
            CHECK.due("seat of " + heir + ": all alike", 0, x.seat(heir));
            CHECK.due("value of " + heir, 12 * 100 * DAY_DUE / 6, x.value(heir));
        }
        CHECK.due("the buyer", 0, x.sale(false));
        CHECK.due("the sum", 5 * 12 * 100 * DAY_DUE / 6, x.sale(true));
        CHECK.will(x, "to 5 part 1 if noise > 8 and noise < 10", 1);
        x.oil(9, 49);
        CHECK.due("the one seat from which the ninth is heard", 9, x.seat(5));
        CHECK.due("the buyer has nothing, as none hears it", 0, x.sale(false));
    }

    private static void ghosts() {
        NoiseHouse x = full();
        Check.write(x, "j\143a\142i\142b\141h\141e\136");
        CHECK.due("a ghost in the last room", 9, x.ghost(1));
        Check.write(x, "j\143a\142i\142b\141h\141e\136");
        CHECK.due("of the greatest loudness", 99, x.ghost(2));
        Check.write(x, "j\0");
        // a room so far off is nothing there up to its cost: 1 1 2 2 3 3 4 4 5
        CHECK.due("nothing in the last room", 25, x.ghost(0));
        for (int n = 1; n <= 20; n++) {
            x.feed(0x61626162, 0x61626162, 0x61626162, 0x61626162, 0x61626162);
        }
        CHECK.illegal("a full TAPE is no ghost", () -> x.ghost(0));
        CHECK.due("it is used up", false, x.end(1));
    }

    private static void actsAndImage() {
        NoiseHouse x = full();
        CHECK.illegal("make of the last noise, a beast", () -> x.make(11) ? 1 : 0);
        CHECK.outOfBounds("make of a thirteenth", () -> x.make(12) ? 1 : 0);
        CHECK.due("seed", 1, x.seed(7));
        x.image();
        for (int noise = 0; noise < 12; noise++) {
            CHECK.due("oil", 99, x.oil(noise, 99));
        }
        CHECK.due("twelve acts", 12, x.count(13));
        CHECK.due("nothing is heard", 0, x.room(0, 3));
        x.carpet(9, 20);
        CHECK.due("twelve still", 12, x.count(13));
        CHECK.due("the way into the last room", 21, x.cost(0, 9));
        for (int act = 0; act < 12; act++) {
            CHECK.due("undo", true, x.undo());
        }
        CHECK.due("no more", false, x.undo());
        CHECK.due("the first stays", 99, x.noise(0, 5));
        CHECK.due("the last is undone", 0, x.noise(11, 5));
        CHECK.due("the way is as it was", 1, x.cost(0, 9));
        x.hours(50);
        CHECK.will(x, "", 0);
        CHECK.due("back()", true, x.back());
        int[] due = {10, 14, 6, 12, 5, 12, 0, 0, 0, 0, 0, 0, 0, 0};
        for (int what = 0; what < due.length; what++) {
            CHECK.due("count(" + what + ") of the image", due[what], x.count(what));
        }
        CHECK.due("oil of the image", 0, x.noise(0, 5));
        CHECK.due("seed of the image", 7, x.seed(7));
        CHECK.due("the last title of the image", 3, x.title(5, 11));
        CHECK.due("the last noise of the image", -1, x.noise(11, 7));
        CHECK.due("the last heir of the image", 0, x.heir(5, 2));
    }
}
