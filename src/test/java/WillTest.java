/** Promises 5, 12 and 13: will, title, part. */
public final class WillTest {
    private static final Check CHECK = new Check("WillTest");

    public static void main(String[] args) {
        will();
        wrongWills();
        depth();
        lines();
        title();
        conditions();
        part();
        CHECK.finish();
    }

    private static NoiseHouse house() {
        NoiseHouse x = new NoiseHouse();
        CHECK.house(x, "room 0;room 0;door 0 1 10;heir in 0 ear 5;heir in 1 ear 30;heir in 1 ear 50;"
            + "noise clock 1 in 0 pitch 20 loud 35 worth 10;noise weather in 1 pitch 30 loud 40 worth 7;"
            + "noise beast 0 in 0 pitch 40 loud 50 worth 3;noise foot in 1 pitch 50 loud 60 worth 5");
        return x;
    }

    private static void will() {
        NoiseHouse x = house();
        CHECK.will(x, "to 0 part 3", 1);
        CHECK.due("count(5)", 1, x.count(5));
        CHECK.will(x, "to0part3if(clock)or not weather;bar5if pitch+1<loud+hour and 5>room;to 5 part 999", 3);
        CHECK.due("count(5)", 3, x.count(5));
        CHECK.due("the TAPE is used up", false, x.end(1));
        CHECK.wrongWill(x, "to 0 part 5;bar", 15);
        CHECK.due("the will ahead of a wrong one", 3, x.count(5));
        CHECK.due("its title", 3, x.title(0, 0));
        CHECK.will(x, "   ", 0);
        CHECK.due("a will of blanks", 0, x.count(5));
        CHECK.due("title by it", 0, x.title(0, 0));
        CHECK.will(x, "", 0);
        CHECK.due("an empty will", 0, x.count(5));
        x.oil(0, 1);
        CHECK.wrongWill(x, "x", 0);
        CHECK.due("acts behind a wrong will", 1, x.count(13));
        CHECK.will(x, "bar 0", 1);
        CHECK.due("acts behind a will", 0, x.count(13));
    }

    private static void wrongWills() {
        NoiseHouse x = house();
        CHECK.wrongWill(x, "to", 2);
        CHECK.wrongWill(x, "to ", 3);
        CHECK.wrongWill(x, "to 6 part 1", 3);
        CHECK.wrongWill(x, "to 0 1", 5);
        CHECK.wrongWill(x, "to 0 part", 9);
        CHECK.wrongWill(x, "to 0 part 1000", 10);
        CHECK.wrongWill(x, "to 0 part 1 clock", 12);
        CHECK.wrongWill(x, "bar 6", 4);
        CHECK.wrongWill(x, "bar 0 part 1", 6);
        CHECK.wrongWill(x, "room 0", 0);
        CHECK.wrongWill(x, "bar 0;", 6);
        CHECK.wrongWill(x, ";bar 0", 0);
        CHECK.wrongWill(x, "bar 0 if", 8);
        CHECK.wrongWill(x, "bar 0 if ;bar 1", 9);
        CHECK.wrongWill(x, "bar 0 if bell", 9);
        CHECK.wrongWill(x, "bar 0 if clock if foot", 15);
        CHECK.wrongWill(x, "bar 0 if clock foot", 15);
        CHECK.wrongWill(x, "bar 0 if clock and", 18);
        CHECK.wrongWill(x, "bar 0 if clock or", 17);
        CHECK.wrongWill(x, "bar 0 if clock and or foot", 19);
        CHECK.wrongWill(x, "bar 0 if not", 12);
        CHECK.wrongWill(x, "bar 0 if not and", 13);
        CHECK.wrongWill(x, "bar 0 if ()", 10);
        CHECK.wrongWill(x, "bar 0 if (clock", 15);
        CHECK.wrongWill(x, "bar 0 if (clock;bar 1", 15);
        CHECK.wrongWill(x, "bar 0 if clock)", 14);
        CHECK.wrongWill(x, "bar 0 if (pitch) > 1", 15);
        CHECK.wrongWill(x, "bar 0 if pitch", 14);
        CHECK.wrongWill(x, "bar 0 if pitch and clock", 15);
        CHECK.wrongWill(x, "bar 0 if pitch < ", 17);
        CHECK.wrongWill(x, "bar 0 if pitch = 1", 15);
        CHECK.wrongWill(x, "bar 0 if pitch < clock", 17);
        CHECK.wrongWill(x, "bar 0 if pitch < (1)", 17);
        CHECK.wrongWill(x, "bar 0 if pitch + < 1", 17);
        CHECK.wrongWill(x, "bar 0 if + pitch < 1", 9);
        CHECK.wrongWill(x, "bar 0 if pitch < 1 < 2", 19);
        CHECK.wrongWill(x, "bar 0 if pitch < 1000", 17);
        CHECK.wrongWill(x, "bar 0 if 0001 < pitch", 9);
        CHECK.wrongWill(x, "bar 0 if worth < 1", 9);
        CHECK.wrongWill(x, "bar 0 if clock < 1", 15);
        CHECK.wrongWill(x, "bar 0 if pitch < 1 2", 19);
        CHECK.due("no will yet", -1, x.count(5));
    }

    private static void depth() {
        NoiseHouse x = house();
        CHECK.will(x, "bar 0 if not not not not not not clock", 1);
        CHECK.wrongWill(x, "bar 0 if not not not not not not not clock", 33);
        CHECK.will(x, "bar 0 if ((((((clock))))))", 1);
        CHECK.wrongWill(x, "bar 0 if (((((((clock)))))))", 15);
        CHECK.will(x, "bar 0 if (not (not (not clock)))and(not(not(not foot)))", 1);
        CHECK.wrongWill(x, "bar 0 if (not (not (not (clock))))", 24);
        CHECK.wrongWill(x, "bar 0 if foot or (not (not (not not clock)))", 32);
        CHECK.will(x, "to 0 part 1 if foot or clock and (foot or clock and (foot or clock and (foot or clock and (foot or clock and "
            + "(foot or clock and (foot or clock and hour + 1 + 2 < hour + 2 + 2))))))", 1);
        CHECK.due("title by the deepest", 1, x.title(0, 0));
        CHECK.due("title by the deepest of a beast", 0, x.title(0, 2));
        CHECK.due("title by the deepest of a foot", 1, x.title(0, 3));
        CHECK.will(x, "to 0 part 1 if foot or clock and (foot or clock and (foot or clock and (foot or clock and (foot or clock and "
            + "(foot or clock and (foot or clock and hour + 1 + 2 > hour + 2 + 2))))))", 1);
        CHECK.due("title by the deepest that does not hold", 0, x.title(0, 0));
        CHECK.due("title by it of a foot", 1, x.title(0, 3));
        CHECK.will(x, "to 0 part 1 if foot or clock and (foot or clock and (foot or clock and (foot or clock and (foot or clock and "
            + "(foot or clock and (foot or clock and 2 + 1 + 1 > 1 + 1 + 1))))))", 1);
        CHECK.due("title by the deepest of numbers", 1, x.title(0, 0));
        CHECK.due("title by it of a beast", 0, x.title(0, 2));
    }

    private static void lines() {
        NoiseHouse x = house();
        CHECK.will(x, "to 1 part 999;".repeat(11) + "to 1 part 999", 12);
        CHECK.due("the greatest title", 12 * 999, x.title(1, 0));
        CHECK.due("an amount by it", 99999, x.part(1, 0, 99999));
        CHECK.wrongWill(x, "bar 0;".repeat(12) + "bar 0", 72);
        CHECK.wrongWill(x, "bar 0;".repeat(12), 72);
        CHECK.due("count(5)", 12, x.count(5));
    }

    private static void title() {
        NoiseHouse x = house();
        CHECK.due("title without a text", 0, x.title(0, 0));
        CHECK.will(x, "to 0 part 3;to 1 part 2 if clock;to 0 part 4 if weather;bar 1 if foot;to 1 part 9;bar 2;to 2 part 8;to 4 part 7", 8);
        int[][] due = {{3, 7, 3, 3}, {11, 9, 9, 0}, {0, 0, 0, 0}};
        for (int heir = 0; heir < 3; heir++) {
            for (int noise = 0; noise < 4; noise++) {
                CHECK.due("title(" + heir + ", " + noise + ")", due[heir][noise], x.title(heir, noise));
            }
        }
        CHECK.outOfBounds("title(4, 0), told but not there", () -> x.title(4, 0));
        CHECK.house(x, "heir in 0 ear 1;heir in 0 ear 1");
        CHECK.due("title(4, 0), there by now", 7, x.title(4, 0));
        CHECK.due("title(3, 0)", 0, x.title(3, 0));
        for (int one : new int[] {-1, 5, Integer.MIN_VALUE, Integer.MAX_VALUE}) {
            CHECK.outOfBounds("title(" + one + ", 0)", () -> x.title(one, 0));
            CHECK.outOfBounds("title(0, " + one + ")", () -> x.title(0, one));
        }
    }

    /** For each of the four NOISES whether the condition holds for HEIR 0. */
    private static void holds(NoiseHouse x, String condition, int... due) {
        CHECK.will(x, "to 0 part 1 if " + condition, 1);
        for (int noise = 0; noise < due.length; noise++) {
            CHECK.due(condition + " of " + noise, due[noise], x.title(0, noise));
        }
    }

    private static void conditions() {
        NoiseHouse x = house();
        holds(x, "clock", 1, 0, 0, 0);
        holds(x, "weather", 0, 1, 0, 0);
        holds(x, "beast", 0, 0, 1, 0);
        holds(x, "foot", 0, 0, 0, 1);
        holds(x, "not clock", 0, 1, 1, 1);
        holds(x, "not clock and not foot", 0, 1, 1, 0);
        holds(x, "not (clock or foot)", 0, 1, 1, 0);
        holds(x, "clock or weather and foot", 1, 0, 0, 0);
        holds(x, "weather and foot or clock", 1, 0, 0, 0);
        holds(x, "(clock or weather) and weather", 0, 1, 0, 0);
        holds(x, "not clock or clock", 1, 1, 1, 1);
        holds(x, "pitch < 30", 1, 0, 0, 0);
        holds(x, "pitch > 30", 0, 0, 1, 1);
        holds(x, "loud > 40", 0, 0, 1, 1);
        holds(x, "room > 0", 0, 1, 0, 1);
        holds(x, "noise > 1", 0, 0, 1, 1);
        holds(x, "pitch + 15 < loud", 0, 0, 0, 0);
        holds(x, "pitch + 14 < loud", 1, 0, 0, 0);
        holds(x, "999 + 1 > 999", 1, 1, 1, 1);
        holds(x, "noise + room + 1 > 2", 0, 1, 1, 1);
        holds(x, "oil > 0", 0, 0, 0, 0);
        x.oil(2, 4);
        CHECK.due("oil > 0 when oiled", 1, x.title(0, 2));
        holds(x, "oil + oil > 7", 0, 0, 1, 0);
        holds(x, "hears", 1, 1, 1, 1);
        x.oil(0, 31);
        CHECK.due("hears, just not", 0, x.title(0, 0));
        CHECK.will(x, "to 0 part 1 if hears;to 1 part 1 if hears;to 2 part 1 if hears", 3);
        CHECK.due("hears of the heir told", 1, x.title(1, 3));
        CHECK.due("hears of another", 0, x.title(1, 0));
        CHECK.due("hears of one with 50", 1, x.title(2, 3));
        CHECK.due("hears of one with 50, weather", 0, x.title(2, 1));
        CHECK.house(x, "heir in 0 ear 1;noise foot in 0 pitch 1 loud 1 worth 1");
        CHECK.will(x, "to 3 part 1 if hears", 1);
        CHECK.due("hears the least noise", 1, x.title(3, 4));
        holds(x, "hour > 0", 0, 0, 0, 0);
        x.hours(1);
        CHECK.due("hour > 0, an hour on", 1, x.title(0, 0));
        x.hours(22);
        holds(x, "22 < hour", 1, 1, 1, 1);
        x.hours(1);
        CHECK.due("hour behind 23", 0, x.title(0, 0));
        holds(x, "storm", 0, 0, 0, 0);
        CHECK.house(x, "stormy 100");
        CHECK.due("storm that has not been", 0, x.title(0, 0));
        x.hours(1);
        CHECK.due("storm that was", 1, x.title(0, 0));
        CHECK.house(x, "stormy 0");
        CHECK.due("storm of the latest hour", 1, x.title(0, 0));
        x.hours(1);
        CHECK.due("storm that is over", 0, x.title(0, 0));
    }

    private static void part() {
        NoiseHouse x = house();
        CHECK.due("part of the chest without a will", 10, x.part(-1, 0, 10));
        CHECK.due("part of an heir without a will", 0, x.part(0, 0, 10));
        CHECK.will(x, "to 0 part 1;to 1 part 1;to 2 part 1", 3);
        int[] eleven = {4, 4, 3};
        int[] ten = {4, 3, 3};
        for (int heir = 0; heir < 3; heir++) {
            CHECK.due("11 by three alike, " + heir, eleven[heir], x.part(heir, 0, 11));
            CHECK.due("10 by three alike, " + heir, ten[heir], x.part(heir, 0, 10));
            CHECK.due("9 by three alike, " + heir, 3, x.part(heir, 0, 9));
            CHECK.due("0 by three alike, " + heir, 0, x.part(heir, 0, 0));
        }
        CHECK.will(x, "to 0 part 2;to 1 part 3;to 2 part 3", 3);
        int[] one = {0, 1, 0};
        int[] two = {0, 1, 1};
        int[] five = {1, 2, 2};
        int[] seven = {1, 3, 3};
        for (int heir = 0; heir < 3; heir++) {
            CHECK.due("1 by 2 3 3, " + heir, one[heir], x.part(heir, 0, 1));
            CHECK.due("2 by 2 3 3, " + heir, two[heir], x.part(heir, 0, 2));
            CHECK.due("5 by 2 3 3, " + heir, five[heir], x.part(heir, 0, 5));
            CHECK.due("7 by 2 3 3, " + heir, seven[heir], x.part(heir, 0, 7));
        }
        CHECK.will(x, "to 0 part 0;to 1 part 1;to 2 part 2;bar 2 if foot;bar 1 if foot", 5);
        CHECK.due("1 by 0 1 2, 2", 1, x.part(2, 0, 1));
        CHECK.due("2 by 0 1 2, 0", 0, x.part(0, 0, 2));
        CHECK.due("2 by 0 1 2, 1", 0, x.part(1, 0, 2));
        CHECK.due("2 by 0 1 2, the chest", 0, x.part(-1, 0, 2));
        CHECK.due("a ghost's", 99999, x.part(-1, 3, 99999));
        CHECK.due("a ghost's for an heir", 0, x.part(1, 3, 99999));
        CHECK.due("nothing is paid", 0, x.count(11));
        CHECK.illegal("an amount below 0", () -> x.part(0, 0, -1));
        CHECK.illegal("an amount too great", () -> x.part(-1, 0, 100000));
        for (int who : new int[] {-2, 3, Integer.MIN_VALUE, Integer.MAX_VALUE}) {
            CHECK.outOfBounds("part of heir " + who, () -> x.part(who, 0, -1));
        }
        CHECK.outOfBounds("part of noise 4", () -> x.part(-1, 4, -1));
        CHECK.outOfBounds("part of noise -1", () -> x.part(0, -1, 100000));
    }
}
