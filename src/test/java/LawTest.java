import java.util.ArrayList;
import java.util.List;
import java.util.Random;
import java.util.function.IntBinaryOperator;

/**
 * What the document's sentences make of one another: each answer is told from other answers of the same object, on made-up
 * houses, without a second program to compare with. No object is asked more than 512 calls.
 */
public final class LawTest {
    private static final Check CHECK = new Check("LawTest");
    private static final int HOUSES = 150;

    interface Law {
        void test(Made house);
    }

    public static void main(String[] args) {
        law("the least sum of HOLDS, and CARPETS of all ROOMS that are come into, by DOORS; 0 in the same one.", LawTest::ways);
        law("AT a ROOM a NOISE is LOUD less OIL, less COST from its ROOM, less CARPET of its own ROOM", LawTest::loudness);
        law("An HEIR HEARS it, if AT the ROOM where one sits it is EAR at least.", LawTest::hearing);
        law("amount times TITLE by all TITLES, rounded down; what is left over: a coin each", LawTest::parts);
        law("DRAW modulo 100 below STORMY: a STORM.", LawTest::storms);
        law("Then HOUR is 1 more (behind 23 it is 0 of the next DAY).", LawTest::hoursInParts);
        law("WEIGHT by all, in ten-thousandths, rounded down (0, if all are 0)", LawTest::which);
        law("hundredths of soundings that are due", LawTest::winters);
        law("the least sum of their DUE for N DAYS (by all together)", LawTest::quiet);
        law("where each who was there by then was", LawTest::suspects);
        law("by which it is just so AT each of these: how many; the first (ROOM, then LOUD).", LawTest::ghosts);
        law("DUE of all NOISES for 10 DAYS now, less that with it in place of the one there.", LawTest::breaches);
        law("rounds till all are sold; what is paid in all", LawTest::silence);
        law("100 times that by all, rounded down; 0 of one who does not.", LawTest::ears);
        law("is the greatest together; of several the least; none without ROOMS.", LawTest::seats);
        law("what one gets of DUE for 100 DAYS of each NOISE, PARTED.", LawTest::values);
        law("all is as ahead of it (but for the TAPE, fault(), THE IMAGE).", LawTest::undone);
        law("THE IMAGE (one) of all may be kept, and gone back to", LawTest::image);
        law("THE HOUSE is told in texts (at most 10, one behind another)", LawTest::lineByLine);
        law("the begin of the first thing that cannot stand there", LawTest::faults);
        CHECK.finish();
    }

    private static void law(String words, Law law) {
        CHECK.sentence(words);
        for (int seed = 0; seed < HOUSES; seed++) {
            law.test(new Made(seed));
        }
    }

    /** A made-up house: its lines, its doors and its will. */
    private static final class Made {
        final Random random;
        final Texts texts;
        final List<String> lines = new ArrayList<>();
        final List<int[]> doors = new ArrayList<>();
        final String will;
        final int rooms;
        final int heirs;
        final int noises;

        Made(int seed) {
            random = new Random(seed);
            texts = new Texts(random);
            rooms = 1 + below(10);
            heirs = below(7);
            noises = below(13);
            for (int room = 0; room < rooms; room++) {
                lines.add("room " + below(below(3) == 0 ? 21 : 4));
            }
            for (int door = rooms == 1 ? 0 : below(15); door > 0; door--) {
                int one = below(rooms);
                int other = (one + 1 + below(rooms - 1)) % rooms;
                doors.add(new int[] {one, other});
                lines.add("door " + one + " " + other + " " + (1 + below(below(3) == 0 ? 30 : 9)));
            }
            for (int heir = 0; heir < heirs; heir++) {
                lines.add("heir in " + below(rooms) + " ear " + (1 + below(below(3) == 0 ? 50 : 20)));
            }
            for (int noise = 0; noise < noises; noise++) {
                lines.add("noise " + texts.sort() + " in " + below(rooms) + " pitch " + below(40) + " loud " + (1 + below(99))
                    + " worth " + below(100));
            }
            lines.add("stormy " + below(101));
            will = rightWill();
        }

        int below(int n) {
            return random.nextInt(n);
        }

        private String rightWill() {
            for (int tries = 0; tries < 1000; tries++) {
                String text = texts.will();
                try {
                    NoiseHouse x = new NoiseHouse();
                    Check.write(x, text);
                    x.will();
                    return text;
                } catch (IllegalArgumentException e) {
                    continue;
                }
            }
            return "";
        }

        NoiseHouse open() {
            NoiseHouse x = new NoiseHouse();
            StringBuilder text = new StringBuilder();
            int inText = 0;
            for (String line : lines) {
                if (inText == 14 || text.length() + line.length() >= 400) {
                    CHECK.house(x, text.toString());
                    text.setLength(0);
                    inText = 0;
                }
                text.append(inText == 0 ? "" : ";").append(line);
                inText++;
            }
            CHECK.house(x, text.toString());
            Check.write(x, will);
            x.will();
            return x;
        }

        /** Some acts, so that not all oils are 0 and heirs have moved. */
        NoiseHouse openUsed() {
            NoiseHouse x = open();
            for (int act = below(6); act > 0; act--) {
                act(x);
            }
            return x;
        }

        void act(NoiseHouse x) {
            int sort = below(4);
            if (sort == 0 && heirs > 0) {
                x.go(below(heirs), below(rooms));
            } else if (sort == 1 && noises > 0) {
                x.oil(below(noises), 1 + below(20));
            } else if (sort == 2 && noises > 0) {
                int noise = below(noises);
                if (x.noise(noise, 0) == 3) {
                    x.make(noise);
                }
            } else {
                x.carpet(below(rooms), below(21));
            }
        }
    }

    /** What may change while no text is read: at most 104 calls, so that one object may be looked at twice. */
    private static String changing(NoiseHouse x) {
        StringBuilder seen = new StringBuilder();
        look(seen, 1, new int[] {0, 1, 2, 3, 4, 5, 6, 7, 8, 9, 10, 11, 12, 13}, (one, what) -> x.count(what));
        look(seen, x.count(0), new int[] {0, 2, 3}, x::room);
        look(seen, x.count(2), new int[] {0, 2, 3}, x::heir);
        look(seen, x.count(3), new int[] {5, 7, 8}, x::noise);
        return seen.toString();
    }

    /** What texts tell, but for how many texts there were. */
    private static String told(NoiseHouse x) {
        StringBuilder seen = new StringBuilder();
        look(seen, 1, new int[] {0, 1, 2, 3, 5, 8}, (one, what) -> x.count(what));
        look(seen, x.count(0), new int[] {0, 1, 2, 3}, x::room);
        look(seen, x.count(2), new int[] {0, 1, 3}, x::heir);
        look(seen, x.count(3), new int[] {0, 1, 2, 3, 4, 5, 6}, x::noise);
        for (int noise = 0; noise < x.count(3) && x.count(2) > 0; noise++) {
            seen.append(x.title(0, noise)).append(' ');
        }
        return seen.toString();
    }

    private static void look(StringBuilder seen, int count, int[] whats, IntBinaryOperator ask) {
        for (int one = 0; one < count; one++) {
            for (int what : whats) {
                seen.append(ask.applyAsInt(one, what)).append(' ');
            }
        }
    }

    /** A way there and back passes the same rooms between; and no way is longer than one by a third room. */
    private static void ways(Made house) {
        NoiseHouse x = house.open();
        int[][] cost = new int[house.rooms][house.rooms];
        for (int from = 0; from < house.rooms; from++) {
            for (int to = 0; to < house.rooms; to++) {
                cost[from][to] = x.cost(from, to);
            }
            CHECK.due("cost to itself", 0, cost[from][from]);
        }
        for (int one = 0; one < house.rooms; one++) {
            for (int other = 0; other < one; other++) {
                int there = cost[one][other];
                int back = cost[other][one];
                CHECK.due("a way there is one back", there == -1, back == -1);
                if (there != -1) {
                    CHECK.due("there and back", there - x.room(other, 0), back - x.room(one, 0));
                }
                for (int by = 0; by < house.rooms; by++) {
                    if (cost[one][by] != -1 && cost[by][other] != -1) {
                        CHECK.due("no longer than by " + by, true, there != -1 && there <= cost[one][by] + cost[by][other]);
                    }
                }
            }
        }
    }

    private static void loudness(Made house) {
        NoiseHouse x = house.openUsed();
        for (int room = 0; room < Math.min(4, house.rooms); room++) {
            int sum = 0;
            for (int noise = 0; noise < house.noises; noise++) {
                int cost = x.cost(x.noise(noise, 1), room);
                int loud = x.noise(noise, 3) - x.noise(noise, 5) - cost - x.room(x.noise(noise, 1), 0);
                int want = cost == -1 ? 0 : Math.max(0, loud);
                CHECK.due("at", want, x.at(noise, room));
                sum += want;
            }
            CHECK.due("all together", sum, x.room(room, 3));
        }
    }

    private static void hearing(Made house) {
        NoiseHouse x = house.openUsed();
        for (int heir = 0; heir < house.heirs; heir++) {
            int bits = 0;
            int ear = x.heir(heir, 1);
            int room = x.heir(heir, 0);
            for (int noise = 0; noise < house.noises; noise++) {
                bits |= x.at(noise, room) >= ear ? 1 << noise : 0;
            }
            CHECK.due("heard", bits, x.heir(heir, 3));
        }
    }

    private static long[] titles(NoiseHouse x, Made house, int noise) {
        long[] titles = new long[house.heirs];
        for (int heir = 0; heir < house.heirs; heir++) {
            titles[heir] = x.title(heir, noise);
        }
        return titles;
    }

    private static long sum(long[] row) {
        long sum = 0;
        for (long one : row) {
            sum += one;
        }
        return sum;
    }

    /** Shares as told, a coin at a time to the one who has the greatest title of those that got none yet. */
    private static long[] shares(long[] titles, long amount) {
        long all = sum(titles);
        long[] shares = new long[titles.length];
        boolean[] got = new boolean[titles.length];
        for (int heir = 0; heir < titles.length && all > 0; heir++) {
            shares[heir] = amount * titles[heir] / all;
        }
        for (long left = amount - sum(shares); left > 0 && all > 0; left--) {
            int next = -1;
            for (int heir = 0; heir < titles.length; heir++) {
                if (!got[heir] && titles[heir] > 0 && (next == -1 || titles[heir] > titles[next])) {
                    next = heir;
                }
            }
            got[next] = true;
            shares[next]++;
        }
        return shares;
    }

    private static void parts(Made house) {
        NoiseHouse x = house.openUsed();
        for (int noise = 0; noise < house.noises; noise++) {
            int amount = house.below(house.below(2) == 0 ? 100000 : 30);
            long[] shares = shares(titles(x, house, noise), amount);
            for (int heir = 0; heir < house.heirs; heir++) {
                CHECK.due("part of " + amount, shares[heir], x.part(heir, noise, amount));
            }
            CHECK.due("the chest's of " + amount, amount - sum(shares), x.part(-1, noise, amount));
        }
    }

    /** The draws of 32 hours, told from a SEED that is put. */
    private static void storms(Made house) {
        NoiseHouse x = house.openUsed();
        int seed = house.random.nextInt();
        x.seed(seed);
        int[] kinds = new int[house.noises];
        int[] rates = new int[house.noises];
        for (int noise = 0; noise < house.noises; noise++) {
            kinds[noise] = x.noise(noise, 0);
            rates[noise] = x.noise(noise, 6);
        }
        int made = 0;
        for (int noise = 0; noise < house.noises; noise++) {
            if (kinds[noise] == 3) {
                x.make(noise);
                made++;
            }
        }
        int stormy = x.count(8);
        for (int hour = 0; hour < 32; hour++) {
            seed = seed * 1103515245 + 12345;
            boolean storm = (seed >>> 16 & 0x7fff) % 100 < stormy;
            int sounded = hour == 0 ? made : 0;
            for (int noise = 0; noise < house.noises; noise++) {
                if (kinds[noise] == 2) {
                    seed = seed * 1103515245 + 12345;
                    sounded += (seed >>> 16 & 0x7fff) % 100 < rates[noise] ? 1 : 0;
                }
                sounded += kinds[noise] == 0 && (rates[noise] & 1 << hour % 24) != 0 ? 1 : 0;
                sounded += kinds[noise] == 1 && storm ? 1 : 0;
            }
            CHECK.due("soundings", sounded, x.hours(1));
            CHECK.due("a storm", storm ? 1 : 0, x.count(9));
        }
        CHECK.due("SEED", seed, x.seed(0));
    }

    private static void hoursInParts(Made house) {
        NoiseHouse x = house.open();
        NoiseHouse y = house.open();
        int one = 1 + house.below(120);
        int other = 1 + house.below(120);
        int apart = x.hours(one) + x.hours(other);
        CHECK.due("soundings", apart, y.hours(one + other));
        CHECK.due("DAY", (one + other) / 24, y.count(6));
        CHECK.due("HOUR", (one + other) % 24, y.count(7));
        CHECK.same("hours in two parts", changing(y), changing(x));
        int coins = x.count(10);
        for (int heir = 0; heir < house.heirs; heir++) {
            coins += x.heir(heir, 2);
        }
        CHECK.due("BOOKS", x.count(11), coins);
    }

    private static void which(Made house) {
        NoiseHouse x = house.openUsed();
        for (int time = 0; time < 5; time++) {
            int room = house.below(house.rooms);
            int pitch = house.below(60);
            long[] weights = new long[house.noises];
            int best = -1;
            for (int noise = 0; noise < house.noises; noise++) {
                int off = Math.abs(x.noise(noise, 2) - pitch);
                weights[noise] = off >= 10 ? 0 : (10 - off) * (long) x.at(noise, room);
                best = weights[noise] > (best == -1 ? 0 : weights[best]) ? noise : best;
            }
            long all = sum(weights);
            CHECK.due("likeliest", best, x.likeliest(room, pitch));
            for (int noise = 0; noise < house.noises; noise++) {
                CHECK.due("odds", all == 0 ? 0 : weights[noise] * 10000 / all, x.odds(noise, room, pitch));
            }
        }
    }

    private static long winter(NoiseHouse x, int noise) {
        int rate = x.noise(noise, 6);
        switch (x.noise(noise, 0)) {
            case 0:
                return 100L * Integer.bitCount(rate);
            case 1:
                return 24L * x.count(8);
            case 2:
                return 24L * rate;
            default:
                return 0;
        }
    }

    private static void winters(Made house) {
        NoiseHouse x = house.openUsed();
        int heard = 0;
        for (int heir = 0; heir < house.heirs; heir++) {
            heard |= x.heir(heir, 3);
        }
        for (int noise = 0; noise < house.noises; noise++) {
            int days = 1 + house.below(200);
            long want = (heard >> noise & 1) == 0 ? 0 : winter(x, noise) * days * x.noise(noise, 4);
            CHECK.due("due for " + days, want, x.due(noise, days));
        }
    }

    private static void quiet(Made house) {
        NoiseHouse x = house.openUsed();
        int room = house.below(house.rooms);
        int days = 1 + house.below(200);
        long[] dues = new long[house.noises];
        int[] louds = new int[house.noises];
        for (int noise = 0; noise < house.noises; noise++) {
            dues[noise] = x.due(noise, days);
            louds[noise] = x.at(noise, room);
        }
        for (int time = 0; time < 4; time++) {
            int target = house.below(time == 0 ? 1000 : 150);
            int best = -1;
            long least = 0;
            for (int set = 0; set < 1 << house.noises; set++) {
                long sum = 0;
                int left = 0;
                for (int noise = 0; noise < house.noises; noise++) {
                    boolean stopped = (set >> noise & 1) != 0;
                    sum += stopped ? dues[noise] : 0;
                    left += stopped ? 0 : louds[noise];
                }
                boolean better = best == -1 || sum < least || sum == least && Integer.bitCount(set) < Integer.bitCount(best);
                if (left <= target && better) {
                    best = set;
                    least = sum;
                }
            }
            CHECK.due("quiet to " + target, best, x.quiet(room, target, days));
        }
    }

    /** Heirs go about for up to 60 hours; where each was is written down here. */
    private static void suspects(Made house) {
        NoiseHouse x = house.open();
        List<int[]> past = new ArrayList<>();
        for (int time = 0; time < 12; time++) {
            for (int moves = house.heirs == 0 ? 0 : house.below(3); moves > 0; moves--) {
                x.go(house.below(house.heirs), house.below(house.rooms));
            }
            int[] sat = new int[house.heirs];
            for (int heir = 0; heir < house.heirs; heir++) {
                sat[heir] = x.heir(heir, 0);
            }
            int hours = 1 + house.below(5);
            x.hours(hours);
            for (int hour = 0; hour < hours; hour++) {
                past.add(sat);
            }
        }
        for (int noise = 0; noise < house.noises; noise++) {
            int latest = x.noise(noise, 7);
            int bits = latest == -1 ? (1 << house.heirs) - 1 : 0;
            int room = x.noise(noise, 1);
            for (int hour = Math.max(latest, past.size() - 40); latest != -1 && hour < past.size(); hour++) {
                for (int heir = 0; heir < house.heirs; heir++) {
                    bits |= isNear(house, past.get(hour)[heir], room) ? 1 << heir : 0;
                }
            }
            CHECK.due("suspects", bits, x.suspects(noise));
        }
    }

    private static boolean isNear(Made house, int one, int other) {
        for (int[] door : house.doors) {
            if (door[0] == one && door[1] == other || door[1] == one && door[0] == other) {
                return true;
            }
        }
        return one == other;
    }

    private static void ghosts(Made house) {
        NoiseHouse x = house.open();
        int[][] cost = new int[house.rooms][house.rooms];
        int[] carpet = new int[house.rooms];
        for (int from = 0; from < house.rooms; from++) {
            carpet[from] = x.room(from, 0);
            for (int to = 0; to < house.rooms; to++) {
                cost[from][to] = x.cost(from, to);
            }
        }
        for (int time = 0; time < 8; time++) {
            int[] rooms = new int[1 + house.below(6)];
            int[] louds = new int[rooms.length];
            int hidden = house.below(house.rooms);
            int hiddenLoud = 1 + house.below(99);
            StringBuilder told = new StringBuilder();
            for (int i = 0; i < rooms.length; i++) {
                rooms[i] = house.below(house.rooms);
                louds[i] = house.below(9) == 0 ? house.below(100) : reach(cost, carpet, hidden, hiddenLoud, rooms[i]);
                told.append((char) (97 + rooms[i])).append((char) louds[i]);
            }
            int[] want = {0, -1, -1};
            for (int ghost = 0; ghost < house.rooms * 99; ghost++) {
                boolean fits = true;
                for (int i = 0; i < rooms.length; i++) {
                    fits &= reach(cost, carpet, ghost / 99, ghost % 99 + 1, rooms[i]) == louds[i];
                }
                want[1] = fits && want[0] == 0 ? ghost / 99 : want[1];
                want[2] = fits && want[0] == 0 ? ghost % 99 + 1 : want[2];
                want[0] += fits ? 1 : 0;
            }
            for (int what = 0; what < 3; what++) {
                Check.write(x, told.toString());
                CHECK.due("ghost(" + what + ")", want[what], x.ghost(what));
            }
        }
    }

    private static int reach(int[][] cost, int[] carpet, int from, int loud, int to) {
        return cost[from][to] == -1 ? 0 : Math.max(0, loud - cost[from][to] - carpet[from]);
    }

    private static long allDue(NoiseHouse x, int days) {
        long sum = 0;
        for (int noise = 0; noise < x.count(3); noise++) {
            sum += x.due(noise, days);
        }
        return sum;
    }

    private static void breaches(Made house) {
        NoiseHouse x = house.openUsed();
        long before = allDue(x, 10);
        for (int time = 0; time < 6; time++) {
            int room = house.below(house.rooms);
            int thick = house.below(21);
            long told = x.breach(room, thick);
            int was = x.carpet(room, thick);
            CHECK.due("breach of " + thick + " for " + was, before - allDue(x, 10), told);
            x.undo();
            CHECK.due("the one that was there", was, x.room(room, 0));
        }
    }

    private static void silence(Made house) {
        NoiseHouse x = house.openUsed();
        for (int time = 0; time < 4; time++) {
            int room = house.below(house.rooms);
            int days = 1 + house.below(time == 0 ? 200 : 9);
            int step = 1 + house.below(999);
            long[] dues = new long[house.noises];
            boolean[] open = new boolean[house.noises];
            int left = 0;
            for (int noise = 0; noise < house.noises; noise++) {
                dues[noise] = x.due(noise, days);
                open[noise] = x.at(noise, room) > 0;
                left += open[noise] ? 1 : 0;
            }
            int round = 0;
            long paid = 0;
            while (left > 0 && round < 10000) {
                round++;
                for (int noise = 0; noise < house.noises; noise++) {
                    if (open[noise] && dues[noise] <= (long) round * step) {
                        open[noise] = false;
                        left--;
                        paid += (long) round * step;
                    }
                }
            }
            CHECK.due("rounds", round > 9999 ? -1 : round, x.silence(room, days, step, false));
            CHECK.due("paid", round > 9999 ? -1 : paid, x.silence(room, days, step, true));
        }
    }

    private static void ears(Made house) {
        NoiseHouse x = house.openUsed();
        for (int noise = 0; noise < Math.min(7, house.noises); noise++) {
            long[] louds = new long[house.heirs];
            for (int heir = 0; heir < house.heirs; heir++) {
                louds[heir] = (x.heir(heir, 3) >> noise & 1) == 0 ? 0 : x.at(noise, x.heir(heir, 0));
            }
            for (int heir = 0; heir < house.heirs; heir++) {
                CHECK.due("ears", louds[heir] == 0 ? 0 : 100 * louds[heir] / sum(louds), x.ears(heir, noise));
            }
        }
    }

    private static void seats(Made house) {
        NoiseHouse x = house.openUsed();
        if (house.heirs == 0) {
            return;
        }
        int heir = house.below(house.heirs);
        int ear = x.heir(heir, 1);
        long[] gains = new long[house.rooms];
        for (int noise = 0; noise < house.noises; noise++) {
            long[] titles = titles(x, house, noise);
            long all = sum(titles);
            long gain = all == 0 ? 0 : winter(x, noise) * x.noise(noise, 4) * titles[heir] / all;
            for (int room = 0; room < house.rooms; room++) {
                gains[room] += x.at(noise, room) >= ear ? gain : 0;
            }
        }
        int best = 0;
        for (int room = 1; room < house.rooms; room++) {
            best = gains[room] > gains[best] ? room : best;
        }
        CHECK.due("seat", best, x.seat(heir));
    }

    private static void values(Made house) {
        NoiseHouse x = house.openUsed();
        long[] values = new long[house.heirs];
        for (int noise = 0; noise < house.noises; noise++) {
            long[] shares = shares(titles(x, house, noise), x.due(noise, 100));
            for (int heir = 0; heir < house.heirs; heir++) {
                values[heir] += shares[heir];
            }
        }
        int buyer = house.heirs == 0 ? -1 : 0;
        for (int heir = 0; heir < house.heirs; heir++) {
            CHECK.due("value", values[heir], x.value(heir));
            buyer = values[heir] > values[buyer] ? heir : buyer;
        }
        CHECK.due("buyer", buyer, x.sale(false));
        CHECK.due("sum", buyer == -1 ? -1 : sum(values) - values[buyer], x.sale(true));
    }

    private static void undone(Made house) {
        NoiseHouse x = house.open();
        x.hours(1 + house.below(30));
        String before = changing(x);
        for (int act = 1 + house.below(12); act > 0; act--) {
            house.act(x);
        }
        while (x.undo()) {
            CHECK.due("fewer than 12 are left", true, x.count(13) < 12);
        }
        CHECK.same("all undone", before, changing(x));
    }

    private static void image(Made house) {
        NoiseHouse x = house.open();
        int hours = 1 + house.below(50);
        x.hours(hours);
        String before = changing(x);
        x.image();
        house.act(x);
        x.hours(hours);
        Check.write(x, "stormy 100");
        if (x.count(4) < 10) {
            x.house();
        }
        CHECK.due("back", true, x.back());
        CHECK.same("gone back", before, changing(x));
        NoiseHouse y = house.open();
        y.hours(hours);
        CHECK.due("the hours from there", y.hours(hours), x.hours(hours));
    }

    /** A text line by line, in texts of its own, tells the same house. */
    private static void lineByLine(Made house) {
        NoiseHouse x = house.open();
        NoiseHouse y = new NoiseHouse();
        int each = (house.lines.size() + 9) / 10;
        for (int from = 0; from < house.lines.size(); from += each) {
            CHECK.house(y, String.join("  ; ", house.lines.subList(from, Math.min(house.lines.size(), from + each))));
        }
        Check.write(y, " " + house.will.substring(0, Math.min(399, house.will.length())));
        if (house.will.length() < 400) {
            y.will();
            CHECK.same("in other texts", told(x), told(y));
        }
    }

    /** Up to its fault a text lacks nothing but more; from its fault on nothing changes what is wrong. */
    private static void faults(Made house) {
        for (int time = 0; time < 20; time++) {
            boolean isWill = house.below(2) == 0;
            String text = isWill ? house.texts.will() : house.texts.house(0, 0, 0, 0);
            text = text.length() > 390 ? text.substring(0, 390) : text;
            int fault = faultOf(isWill, text);
            if (fault == -1) {
                CHECK.due("a sign behind: " + text, text.length() + 1, faultOf(isWill, text + " ?"));
                continue;
            }
            String ahead = text.substring(0, fault);
            int shorter = faultOf(isWill, ahead);
            CHECK.due("the text up to its fault: " + text, true, shorter == -1 || shorter == fault);
            CHECK.due("blanks behind: " + text, fault == text.length() ? fault + 1 : fault, faultOf(isWill, text + " "));
            CHECK.due("blanks ahead: " + text, fault + 2, faultOf(isWill, "  " + text));
            CHECK.due("a sign behind: " + text, fault == text.length() ? fault + 1 : fault, faultOf(isWill, text + " ?"));
            if (fault < text.length()) {
                int end = endOfThing(text, fault);
                CHECK.due("a blank at the fault: " + text, fault + 1, faultOf(isWill, ahead + " " + text.substring(fault)));
                CHECK.due("nothing behind the fault: " + text, fault, faultOf(isWill, text.substring(0, end)));
            }
        }
    }

    private static int faultOf(boolean isWill, String text) {
        NoiseHouse x = new NoiseHouse();
        Check.write(x, text);
        try {
            int told = isWill ? x.will() : x.house();
            CHECK.due("what a right text answers", true, told >= 0);
        } catch (IllegalArgumentException e) {
            CHECK.due("a wrong text has a fault", true, x.fault() != -1);
        }
        return x.fault();
    }

    private static int endOfThing(String text, int from) {
        int end = from + 1;
        while (end < text.length() && sort(text.charAt(from)) != 0 && sort(text.charAt(end)) == sort(text.charAt(from))) {
            end++;
        }
        return end;
    }

    private static int sort(char sign) {
        return sign >= 'a' && sign <= 'z' ? 1 : sign >= '0' && sign <= '9' ? 2 : 0;
    }
}
