import java.util.Random;
import java.util.function.LongSupplier;

/** Runs of made-up calls, up to the 512 of an object, each answer compared with the one of Slow; all promises. */
public final class RandomTest {
    private static final int RUNS = 5000;
    private static final int MOST_CALLS = 512;
    /** No step of a run makes more calls than this, but for a look at all. */
    private static final int MOST_OF_A_STEP = 80;
    private static final int MOST_OF_A_LOOK = 16 + 10 * 4 + 6 * 4 + 12 * 9;

    private final NoiseHouse fast = new NoiseHouse();
    private final Slow slow = new Slow();
    private final Random random;
    private final Texts texts;
    private final StringBuilder log = new StringBuilder();
    private int calls = 0;
    private static final int[] ANSWERED = new int[60];
    private static final int[] THROWN = new int[60];

    private RandomTest(long seed) {
        random = new Random(seed);
        texts = new Texts(random);
    }

    public static void main(String[] args) {
        int runs = args.length > 0 ? Integer.parseInt(args[0]) : RUNS;
        for (int run = 0; run < runs; run++) {
            RandomTest test = new RandomTest(run);
            if (!test.run()) {
                System.out.println("RandomTest: run " + run + "\n" + test.log);
                System.exit(1);
            }
        }
        for (int kind = 0; kind < KINDS; kind++) {
            if (args.length > 0) {
                System.out.println("kind " + kind + ": " + ANSWERED[kind] + " answered, " + THROWN[kind] + " thrown");
            }
            if (ANSWERED[kind] == 0) {
                System.out.println("RandomTest: no call of kind " + kind + " was answered");
                System.exit(1);
            }
        }
        System.out.println("RandomTest: " + runs + " runs, all as Slow answers");
    }

    private static String answer(LongSupplier ask) {
        try {
            return String.valueOf(ask.getAsLong());
        } catch (RuntimeException e) {
            return e.getClass().getName();
        }
    }

    private boolean same(int kind, String call, LongSupplier a, LongSupplier b) {
        calls++;
        String got = answer(a);
        String want = answer(b);
        log.append(call).append(" -> ").append(got).append('\n');
        if (got.startsWith("java")) {
            THROWN[kind]++;
        } else {
            ANSWERED[kind]++;
        }
        if (!got.equals(want)) {
            log.append("due is ").append(want).append('\n');
            return false;
        }
        return true;
    }

    private boolean run() {
        boolean fits = true;
        for (int text = random.nextInt(6); text >= 0 && fits; text--) {
            fits = houseText();
        }
        fits = fits && willText();
        int last = random.nextInt(3) == 0 ? MOST_OF_A_LOOK : 0;
        while (fits && calls + MOST_OF_A_STEP + last <= MOST_CALLS) {
            fits = call(random.nextInt(KINDS)) && books();
        }
        fits = fits && (last == 0 || all());
        if (calls > MOST_CALLS) {
            log.append("the object was asked ").append(calls).append(" calls\n");
        }
        return fits && calls <= MOST_CALLS;
    }

    private boolean houseText() {
        write(random.nextInt(30) == 0 ? texts.will() : houseOfNow());
        return same(0, "house", fast::house, slow::house) && fault();
    }

    private String houseOfNow() {
        return texts.house(slow.s.rooms.size(), slow.s.doors.size(), slow.s.heirs.size(), slow.s.noises.size());
    }

    private boolean willText() {
        write(random.nextInt(30) == 0 ? houseOfNow() : texts.will());
        return same(1, "will", fast::will, slow::will) && fault();
    }

    private boolean fault() {
        return same(KINDS, "fault", fast::fault, () -> slow.fault);
    }

    private void write(String text) {
        Check.write(fast, text);
        calls += 2 + (text.length() + 19) / 20;
        slow.tape = text;
        log.append(text).append('\n');
    }

    /** Now and then: whether the BOOKS add up. */
    private boolean books() {
        if (random.nextInt(8) != 0) {
            return true;
        }
        int sum = fast.count(10);
        for (int heir = 0; heir < slow.s.heirs.size(); heir++) {
            sum += fast.heir(heir, 2);
        }
        calls += 2 + slow.s.heirs.size();
        boolean fits = sum == fast.count(11);
        log.append(fits ? "" : "the BOOKS do not add up\n");
        return fits;
    }

    /** Everything that can be looked at. */
    private boolean all() {
        boolean fits = true;
        for (int what = -1; what < 15 && fits; what++) {
            int w = what;
            fits = same(KINDS, "count " + w, () -> fast.count(w), () -> slow.count(w));
        }
        for (int at = 0; at < 12 * 9 && fits; at++) {
            int one = at / 9;
            int what = at % 9;
            if (one < slow.s.noises.size()) {
                fits = same(KINDS, "noise " + one + " " + what, () -> fast.noise(one, what), () -> slow.noise(one, what));
            }
            if (fits && one < slow.s.rooms.size() && what < 4) {
                fits = same(KINDS, "room " + one + " " + what, () -> fast.room(one, what), () -> slow.room(one, what));
            }
            if (fits && one < slow.s.heirs.size() && what < 4) {
                fits = same(KINDS, "heir " + one + " " + what, () -> fast.heir(one, what), () -> slow.heir(one, what));
            }
        }
        return fits;
    }

    private int near(int count) {
        return random.nextInt(15) == 0 ? random.nextInt(count + 3) - 1 : random.nextInt(Math.max(1, count));
    }

    private int bounded(int least, int most) {
        int odd = random.nextInt(25);
        return odd == 0 ? least - 1 : odd == 1 ? most + 1 : odd == 2 ? least : odd == 3 ? most
            : odd == 4 ? random.nextInt() : least + random.nextInt(most - least + 1);
    }

    private static final int KINDS = 35;

    private boolean call(int kind) {
        int room = near(slow.s.rooms.size());
        int other = near(slow.s.rooms.size());
        int heir = near(slow.s.heirs.size());
        int noise = near(slow.s.noises.size());
        int what = near(4);
        int wide = near(14);
        int days = bounded(1, 200);
        switch (kind) {
            case 0:
                return random.nextInt(3) != 0 || houseText();
            case 1:
                return willText();
            case 2:
                return same(kind, "room " + room + " " + what, () -> fast.room(room, what), () -> slow.room(room, what));
            case 3:
                return same(kind, "heir " + heir + " " + what, () -> fast.heir(heir, what), () -> slow.heir(heir, what));
            case 4:
                return same(kind, "noise " + noise + " " + wide, () -> fast.noise(noise, wide), () -> slow.noise(noise, wide));
            case 5:
                return same(kind, "cost " + room + " " + other, () -> fast.cost(room, other), () -> slow.cost(room, other));
            case 6:
                return same(kind, "at " + noise + " " + room, () -> fast.at(noise, room), () -> slow.at(noise, room));
            case 7:
                return same(kind, "title " + heir + " " + noise, () -> fast.title(heir, noise), () -> slow.title(heir, noise));
            case 8:
                int amount = bounded(0, random.nextBoolean() ? 99999 : 20);
                int who = random.nextInt(5) == 0 ? -1 : heir;
                return same(kind, "part " + who + " " + noise + " " + amount, () -> fast.part(who, noise, amount),
                    () -> slow.part(who, noise, amount));
            case 9:
                int n = random.nextInt(3) == 0 ? bounded(1, 240) : bounded(1, 5);
                return same(kind, "hours " + n, () -> fast.hours(n), () -> slow.hours(n));
            case 10:
                return same(kind, "go " + heir + " " + room, () -> fast.go(heir, room), () -> slow.go(heir, room));
            case 11:
                return same(kind, "make " + noise, () -> fast.make(noise) ? 1 : 0, () -> slow.make(noise) ? 1 : 0);
            case 12:
                int more = bounded(1, random.nextBoolean() ? 99 : 20);
                return same(kind, "oil " + noise + " " + more, () -> fast.oil(noise, more), () -> slow.oil(noise, more));
            case 13:
                int thick = bounded(0, 20);
                return same(kind, "carpet " + room + " " + thick, () -> fast.carpet(room, thick), () -> slow.carpet(room, thick));
            case 14:
                return same(kind, "undo", () -> fast.undo() ? 1 : 0, () -> slow.undo() ? 1 : 0);
            case 15:
                int pitch = bounded(0, random.nextBoolean() ? 99 : 20);
                return same(kind, "odds " + noise + " " + room + " " + pitch, () -> fast.odds(noise, room, pitch),
                    () -> slow.odds(noise, room, pitch));
            case 16:
                int heard = bounded(0, random.nextBoolean() ? 99 : 20);
                return same(kind, "likeliest " + room + " " + heard, () -> fast.likeliest(room, heard),
                    () -> slow.likeliest(room, heard));
            case 17:
                return same(kind, "due " + noise + " " + days, () -> fast.due(noise, days), () -> slow.due(noise, days));
            case 18:
                int target = bounded(0, random.nextBoolean() ? 999 : 60);
                return same(kind, "quiet " + room + " " + target + " " + days, () -> fast.quiet(room, target, days),
                    () -> slow.quiet(room, target, days));
            case 19:
                return same(kind, "suspects " + noise, () -> fast.suspects(noise), () -> slow.suspects(noise));
            case 20:
                return ghost(kind);
            case 21:
                int laid = bounded(0, 20);
                return same(kind, "breach " + room + " " + laid, () -> fast.breach(room, laid), () -> slow.breach(room, laid));
            case 22:
                int step = bounded(1, random.nextInt(4) == 0 ? 20 : 999);
                boolean paid = random.nextBoolean();
                return same(kind, "silence " + room + " " + days + " " + step + " " + paid,
                    () -> fast.silence(room, days, step, paid), () -> slow.silence(room, days, step, paid));
            case 23:
                return same(kind, "ears " + heir + " " + noise, () -> fast.ears(heir, noise), () -> slow.ears(heir, noise));
            case 24:
                return same(kind, "seat " + heir, () -> fast.seat(heir), () -> slow.seat(heir));
            case 25:
                return same(kind, "value " + heir, () -> fast.value(heir), () -> slow.value(heir));
            case 26:
                boolean sum = random.nextBoolean();
                return same(kind, "sale " + sum, () -> fast.sale(sum), () -> slow.sale(sum));
            default:
                return callOfAll(kind);
        }
    }

    private boolean callOfAll(int kind) {
        switch (kind) {
            case 27:
                int seed = random.nextInt();
                return same(kind, "seed " + seed, () -> fast.seed(seed), () -> slow.seed(seed));
            case 28:
                if (random.nextInt(3) == 0) {
                    fast.image();
                    calls++;
                    slow.image();
                    log.append("image\n");
                }
                return same(kind, "count 13", () -> fast.count(13), () -> slow.count(13));
            case 29:
                return random.nextInt(3) != 0
                    || same(kind, "back", () -> fast.back() ? 1 : 0, () -> slow.back() ? 1 : 0);
            case 30:
                int what = random.nextInt(16) - 1;
                return same(kind, "count " + what, () -> fast.count(what), () -> slow.count(what));
            case 31:
                int a = random.nextInt();
                int b = random.nextInt();
                return same(kind, "feed " + a + " " + b, () -> fast.feed(a, b, a + b, a * b, ~a), () -> slow.feed(a, b, a + b, a * b, ~a));
            case 32:
                int n = random.nextInt(slow.tape.length() + 3) - 1;
                return same(kind, "end " + n, () -> fast.end(n) ? 1 : 0, () -> slow.end(n) ? 1 : 0);
            case 33:
                return fillTape(kind);
            default:
                return callOfAct(kind);
        }
    }

    private boolean fillTape(int kind) {
        boolean fits = true;
        for (int more = random.nextInt(25); more >= 0 && fits; more--) {
            int a = random.nextInt();
            fits = same(kind, "feed " + a, () -> fast.feed(a, a, a, a, a), () -> slow.feed(a, a, a, a, a));
        }
        return fits;
    }

    /** Some acts in a row, and some undone. */
    private boolean callOfAct(int kind) {
        boolean fits = true;
        for (int more = random.nextInt(20); more >= 0 && fits; more--) {
            fits = call(10 + random.nextInt(4));
        }
        for (int less = random.nextInt(20); less >= 0 && fits; less--) {
            fits = same(kind, "undo", () -> fast.undo() ? 1 : 0, () -> slow.undo() ? 1 : 0);
        }
        boolean looks = calls + 2 * MOST_OF_A_LOOK + MOST_OF_A_STEP <= MOST_CALLS && random.nextInt(4) == 0;
        return fits && (!looks || all());
    }

    /** Mostly what a ghost somewhere would be heard like, sometimes spoilt. */
    private boolean ghost(int kind) {
        StringBuilder told = new StringBuilder();
        int rooms = slow.s.rooms.size();
        int[] noise = {3, Math.max(0, near(rooms) % Math.max(1, rooms)), 0, 1 + random.nextInt(99), 0, 0, 0, 0, 0, 0};
        for (int pairs = random.nextInt(10) == 0 ? random.nextInt(9) : 1 + random.nextInt(4); pairs > 0; pairs--) {
            int room = near(rooms);
            told.append((char) (97 + room & 255));
            boolean right = room >= 0 && room < rooms && random.nextInt(12) != 0;
            told.append((char) (right ? Slow.at(slow.s, noise, room) : random.nextInt(256)));
        }
        if (random.nextInt(20) == 0) {
            told.append('a');
        }
        write(told.toString());
        int what = near(3);
        return same(kind, "ghost " + what, () -> fast.ghost(what), () -> slow.ghost(what));
    }
}
