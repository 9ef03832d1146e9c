import java.util.NoSuchElementException;

/** An old house whose noises were willed apart; ../shared/DOC.md says what each call answers. */
public final class NoiseHouse {
    public static final int NONE = -1;

    private static final int MOST_ROOMS = 10;
    private static final int MOST_DOORS = 14;
    private static final int MOST_HEIRS = 6;
    private static final int MOST_NOISES = 12;
    private static final int MOST_TEXTS = 10;
    private static final int MOST_HOUSE_LINES = 14;
    private static final int MOST_WILL_LINES = 12;
    private static final int MOST_DEEP = 6;
    private static final int MOST_ACTS = 12;
    private static final int MOST_PAST = 40;
    private static final int MOST_TOLD = 6;
    private static final int MOST_ROUNDS = 9999;
    private static final int MOST_DAYS = 200;
    private static final int MOST_CARPET = 20;
    private static final int MOST_LOUD = 99;
    private static final int MOST_OIL = 99;
    private static final int TAPE_SIZE = 400;
    private static final int FEED_SIZE = 20;
    private static final int DAY_HOURS = 24;
    private static final int FIRST_ROOM_BYTE = 97;
    /** No way costs this much: at most nine doors are passed, for 50 each. */
    private static final int NO_WAY = 100000;

    private static final int CLOCK = 0;
    private static final int WEATHER = 1;
    private static final int BEAST = 2;
    private static final int FOOT = 3;

    private final Tape tape = new Tape();
    private final Acts acts = new Acts();
    private final Parting parting = new Parting();
    private final Quieting quieting = new Quieting();
    private House now = new House();
    private House draft = new House();
    private final House kept = new House();
    private boolean hasImage = false;

    public NoiseHouse() {
    }

    public int feed(int a, int b, int c, int d, int e) {
        if (tape.size > TAPE_SIZE - FEED_SIZE) {
            return NONE;
        }
        tape.put(a);
        tape.put(b);
        tape.put(c);
        tape.put(d);
        tape.put(e);
        return tape.size;
    }

    public boolean end(int n) {
        if (n < 0 || n > tape.size) {
            return false;
        }
        tape.size = n;
        return true;
    }

    public int house() throws IllegalArgumentException, UnsupportedOperationException {
        openText();
        HouseText.read(tape, draft);
        if (now.texts >= MOST_TEXTS) {
            throw new UnsupportedOperationException("there are ten texts of the house");
        }
        draft.texts++;
        draft.findWays();
        takeDraft();
        return now.texts;
    }

    public int will() throws IllegalArgumentException {
        openText();
        WillText.read(tape, draft.will);
        takeDraft();
        return now.will.lines;
    }

    /** A text is read into the draft, so that nothing of a wrong one stays. */
    private void openText() {
        tape.open();
        draft.copyFrom(now);
    }

    private void takeDraft() {
        House before = now;
        now = draft;
        draft = before;
        acts.forget();
    }

    public int fault() {
        return tape.fault;
    }

    public int room(int room, int what) throws IndexOutOfBoundsException, NoSuchElementException {
        needRoom(room);
        switch (what) {
            case 0:
                return now.carpets[room];
            case 1:
                return now.doorsOf(room);
            case 2:
                return now.sittingIn(room);
            case 3:
                return now.loudnessOf(room);
            default:
                throw new NoSuchElementException("a room has no such thing");
        }
    }

    public int heir(int heir, int what) throws IndexOutOfBoundsException, NoSuchElementException {
        needHeir(heir);
        Heir one = now.heirs[heir];
        switch (what) {
            case 0:
                return one.room;
            case 1:
                return one.ear;
            case 2:
                return one.coins;
            case 3:
                return now.heardBy(one);
            default:
                throw new NoSuchElementException("an heir has no such thing");
        }
    }

    public int noise(int noise, int what) throws IndexOutOfBoundsException, NoSuchElementException {
        needNoise(noise);
        Noise one = now.noises[noise];
        switch (what) {
            case 0:
                return one.kind;
            case 1:
                return one.room;
            case 2:
                return one.pitch;
            case 3:
                return one.loud;
            case 4:
                return one.worth;
            case 5:
                return one.oil;
            case 6:
                return one.rate;
            case 7:
                return one.latest;
            case 8:
                return one.times;
            default:
                throw new NoSuchElementException("a noise has no such thing");
        }
    }

    public int cost(int from, int to) throws IndexOutOfBoundsException {
        needRoom(from);
        needRoom(to);
        int way = now.way(from, to);
        return way >= NO_WAY ? NONE : way;
    }

    public int at(int noise, int room) throws IndexOutOfBoundsException {
        needNoise(noise);
        needRoom(room);
        return now.loudAt(now.noises[noise], room);
    }

    public int title(int heir, int noise) throws IndexOutOfBoundsException {
        needHeir(heir);
        needNoise(noise);
        parting.weigh(now, noise);
        return parting.titles[heir];
    }

    public int part(int heir, int noise, int amount) throws IndexOutOfBoundsException, IllegalArgumentException {
        if (heir != NONE) {
            needHeir(heir);
        }
        needNoise(noise);
        need(amount >= 0 && amount <= 99999);
        parting.weigh(now, noise);
        parting.divide(amount);
        return (int) (heir == NONE ? parting.toChest : parting.shares[heir]);
    }

    public int hours(int n) throws IllegalArgumentException {
        need(n >= 1 && n <= 240);
        acts.forget();
        int before = now.soundings;
        for (int hour = 0; hour < n; hour++) {
            passHour();
        }
        return now.soundings - before;
    }

    private void passHour() {
        now.storm = now.draw() % 100 < now.stormy;
        for (int noise = 0; noise < now.noiseCount; noise++) {
            if (now.soundsNow(now.noises[noise])) {
                letSound(noise);
            }
        }
        now.rememberSeats();
        now.time++;
    }

    private void letSound(int noise) {
        Noise one = now.noises[noise];
        one.latest = now.time;
        one.times++;
        now.soundings++;
        if (now.isHeard(one)) {
            parting.weigh(now, noise);
            parting.divide(one.worth);
            for (int heir = 0; heir < now.heirCount; heir++) {
                now.heirs[heir].coins += (int) parting.shares[heir];
            }
            now.chest += (int) parting.toChest;
            now.paid += one.worth;
        }
    }

    public int go(int heir, int room) throws IndexOutOfBoundsException {
        needHeir(heir);
        needRoom(room);
        int before = now.heirs[heir].room;
        acts.remember(Acts.GO, heir, before, now.seed);
        now.heirs[heir].room = room;
        return before;
    }

    public boolean make(int noise) throws IndexOutOfBoundsException, IllegalArgumentException {
        needNoise(noise);
        Noise one = now.noises[noise];
        need(one.kind == FOOT);
        boolean before = one.made;
        acts.remember(Acts.MAKE, noise, before ? 1 : 0, now.seed);
        one.made = true;
        return !before;
    }

    public int oil(int noise, int n) throws IndexOutOfBoundsException, IllegalArgumentException {
        needNoise(noise);
        need(n >= 1 && n <= MOST_OIL);
        Noise one = now.noises[noise];
        acts.remember(Acts.OIL, noise, one.oil, now.seed);
        one.oil = Math.min(MOST_OIL, one.oil + n);
        return one.oil;
    }

    public int carpet(int room, int n) throws IndexOutOfBoundsException, IllegalArgumentException {
        needRoom(room);
        need(isCarpet(n));
        int before = now.carpets[room];
        acts.remember(Acts.CARPET, room, before, now.seed);
        now.lay(room, n);
        return before;
    }

    public boolean undo() {
        int act = acts.takeLatest();
        if (act == NONE) {
            return false;
        }
        int which = acts.which[act];
        int before = acts.before[act];
        switch (acts.sorts[act]) {
            case Acts.GO:
                now.heirs[which].room = before;
                break;
            case Acts.MAKE:
                now.noises[which].made = before != 0;
                break;
            case Acts.OIL:
                now.noises[which].oil = before;
                break;
            default:
                now.lay(which, before);
                break;
        }
        now.seed = acts.seeds[act];
        return true;
    }

    public int odds(int noise, int room, int pitch) throws IndexOutOfBoundsException, IllegalArgumentException {
        needNoise(noise);
        needRoom(room);
        need(isPitch(pitch));
        int all = 0;
        for (int other = 0; other < now.noiseCount; other++) {
            all += now.weight(now.noises[other], room, pitch);
        }
        return all <= 0 ? 0 : 10000 * now.weight(now.noises[noise], room, pitch) / all;
    }

    public int likeliest(int room, int pitch) throws IndexOutOfBoundsException, IllegalArgumentException {
        needRoom(room);
        need(isPitch(pitch));
        int best = NONE;
        int most = 0;
        for (int noise = 0; noise < now.noiseCount; noise++) {
            int weight = now.weight(now.noises[noise], room, pitch);
            if (weight > most) {
                most = weight;
                best = noise;
            }
        }
        return best;
    }

    public long due(int noise, int days) throws IndexOutOfBoundsException, IllegalArgumentException {
        needNoise(noise);
        need(areDays(days));
        return now.dueFor(now.noises[noise], days);
    }

    public int quiet(int room, int target, int days) throws IndexOutOfBoundsException, IllegalArgumentException {
        needRoom(room);
        need(target >= 0 && target <= 999 && areDays(days));
        return quieting.find(now, room, target, days);
    }

    public int suspects(int noise) throws IndexOutOfBoundsException {
        needNoise(noise);
        Noise one = now.noises[noise];
        if (one.latest == NONE) {
            return (1 << now.heirCount) - 1;
        }
        int found = 0;
        for (int room = 0; room < now.roomCount; room++) {
            if (room == one.room || now.hasDoor(room, one.room)) {
                found |= now.satSince(one.latest, room);
            }
        }
        return found;
    }

    public int ghost(int what) throws NoSuchElementException, IllegalArgumentException {
        int told = tape.useUp();
        if (what < 0 || what > 2) {
            throw new NoSuchElementException("a ghost has no such thing");
        }
        need(tellsGhost(told));
        int found = 0;
        int firstRoom = NONE;
        int firstLoud = NONE;
        for (int room = 0; room < now.roomCount; room++) {
            for (int loud = 1; loud <= MOST_LOUD; loud++) {
                if (isGhost(told, room, loud)) {
                    firstRoom = found == 0 ? room : firstRoom;
                    firstLoud = found == 0 ? loud : firstLoud;
                    found++;
                }
            }
        }
        return what == 0 ? found : what == 1 ? firstRoom : firstLoud;
    }

    private boolean tellsGhost(int told) {
        if (told < 2 || told > 2 * MOST_TOLD || told % 2 != 0) {
            return false;
        }
        for (int pair = 0; pair + 1 < told; pair += 2) {
            int room = tape.byteAt(pair) - FIRST_ROOM_BYTE;
            if (!now.hasRoom(room) || tape.byteAt(pair + 1) > MOST_LOUD) {
                return false;
            }
        }
        return true;
    }

    private boolean isGhost(int told, int from, int loud) {
        for (int pair = 0; pair + 1 < told; pair += 2) {
            int room = tape.byteAt(pair) - FIRST_ROOM_BYTE;
            if (!now.hasRoom(room) || now.reach(from, loud, room) != tape.byteAt(pair + 1)) {
                return false;
            }
        }
        return true;
    }

    public long breach(int room, int n) throws IndexOutOfBoundsException, IllegalArgumentException {
        needRoom(room);
        need(isCarpet(n));
        draft.copyFrom(now);
        draft.lay(room, n);
        return now.dueOfAll(10) - draft.dueOfAll(10);
    }

    public long silence(int room, int days, int step, boolean paid)
            throws IndexOutOfBoundsException, IllegalArgumentException {
        needRoom(room);
        need(areDays(days) && step >= 1 && step <= 999);
        long rounds = 0;
        long sum = 0;
        for (int noise = 0; noise < now.noiseCount; noise++) {
            Noise one = now.noises[noise];
            if (now.loudAt(one, room) > 0) {
                long round = Math.max(1, (now.dueFor(one, days) + step - 1) / step);
                rounds = Math.max(rounds, round);
                sum += round * step;
            }
        }
        if (rounds > MOST_ROUNDS) {
            return NONE;
        }
        return paid ? sum : rounds;
    }

    public int ears(int heir, int noise) throws IndexOutOfBoundsException {
        needHeir(heir);
        needNoise(noise);
        Noise one = now.noises[noise];
        int all = 0;
        for (int other = 0; other < now.heirCount; other++) {
            all += now.heardLoudness(now.heirs[other], one);
        }
        return all <= 0 ? 0 : 100 * now.heardLoudness(now.heirs[heir], one) / all;
    }

    public int seat(int heir) throws IndexOutOfBoundsException {
        needHeir(heir);
        int best = NONE;
        long most = -1;
        for (int room = 0; room < now.roomCount; room++) {
            long gain = gainIn(heir, room);
            if (gain > most) {
                most = gain;
                best = room;
            }
        }
        return best;
    }

    /** What an heir would get there in a day, by the titles of where one sits now. */
    private long gainIn(int heir, int room) {
        long gain = 0;
        for (int noise = 0; noise < now.noiseCount; noise++) {
            Noise one = now.noises[noise];
            if (now.loudAt(one, room) >= now.heirs[heir].ear) {
                parting.weigh(now, noise);
                if (parting.allTitles > 0) {
                    gain += now.winter(one, 1) * one.worth * parting.titles[heir] / parting.allTitles;
                }
            }
        }
        return gain;
    }

    public long value(int heir) throws IndexOutOfBoundsException {
        needHeir(heir);
        return worthFor(heir);
    }

    private long worthFor(int heir) {
        long sum = 0;
        for (int noise = 0; noise < now.noiseCount; noise++) {
            parting.weigh(now, noise);
            parting.divide(now.dueFor(now.noises[noise], 100));
            sum += parting.shares[heir];
        }
        return sum;
    }

    public long sale(boolean sum) {
        int buyer = NONE;
        long most = -1;
        long all = 0;
        for (int heir = 0; heir < now.heirCount; heir++) {
            long worth = worthFor(heir);
            all += worth;
            if (worth > most) {
                most = worth;
                buyer = heir;
            }
        }
        return sum && buyer != NONE ? all - most : buyer;
    }

    public int seed(int n) {
        int before = now.seed;
        now.seed = n;
        return before;
    }

    public void image() {
        kept.copyFrom(now);
        hasImage = true;
    }

    public boolean back() {
        if (!hasImage) {
            return false;
        }
        now.copyFrom(kept);
        acts.forget();
        return true;
    }

    public int count(int what) {
        switch (what) {
            case 0:
                return now.roomCount;
            case 1:
                return now.doorCount;
            case 2:
                return now.heirCount;
            case 3:
                return now.noiseCount;
            case 4:
                return now.texts;
            case 5:
                return now.will.lines;
            case 6:
                return now.time / DAY_HOURS;
            case 7:
                return now.hourOfDay();
            case 8:
                return now.stormy;
            case 9:
                return now.storm ? 1 : 0;
            case 10:
                return now.chest;
            case 11:
                return now.paid;
            case 12:
                return now.soundings;
            case 13:
                return acts.count;
            default:
                return NONE;
        }
    }

    private void needRoom(int room) {
        if (!now.hasRoom(room)) {
            throw new IndexOutOfBoundsException("there is no such room");
        }
    }

    private void needHeir(int heir) {
        if (heir < 0 || heir >= now.heirCount) {
            throw new IndexOutOfBoundsException("there is no such heir");
        }
    }

    private void needNoise(int noise) {
        if (noise < 0 || noise >= now.noiseCount) {
            throw new IndexOutOfBoundsException("there is no such noise");
        }
    }

    private static void need(boolean fits) {
        if (!fits) {
            throw new IllegalArgumentException("that is out of its bounds");
        }
    }

    private static boolean areDays(int days) {
        return days >= 1 && days <= MOST_DAYS;
    }

    private static boolean isCarpet(int n) {
        return n >= 0 && n <= MOST_CARPET;
    }

    private static boolean isPitch(int pitch) {
        return pitch >= 0 && pitch <= 99;
    }

    private static final class Door {
        int one = 0;
        int other = 0;
        int hold = 0;

        void copyFrom(Door door) {
            one = door.one;
            other = door.other;
            hold = door.hold;
        }

        boolean leads(int from, int to) {
            return one == from && other == to || one == to && other == from;
        }
    }

    private static final class Heir {
        int room = 0;
        int ear = 0;
        int coins = 0;

        void copyFrom(Heir heir) {
            room = heir.room;
            ear = heir.ear;
            coins = heir.coins;
        }
    }

    private static final class Noise {
        int kind = 0;
        int rate = 0;
        int room = 0;
        int pitch = 0;
        int loud = 0;
        int worth = 0;
        int oil = 0;
        int latest = NONE;
        int times = 0;
        boolean made = false;

        void copyFrom(Noise noise) {
            kind = noise.kind;
            rate = noise.rate;
            room = noise.room;
            pitch = noise.pitch;
            loud = noise.loud;
            worth = noise.worth;
            oil = noise.oil;
            latest = noise.latest;
            times = noise.times;
            made = noise.made;
        }
    }

    /** All that an image keeps. */
    private static final class House {
        int roomCount = 0;
        int doorCount = 0;
        int heirCount = 0;
        int noiseCount = 0;
        final int[] carpets = new int[MOST_ROOMS];
        final Door[] doors = new Door[MOST_DOORS];
        final Heir[] heirs = new Heir[MOST_HEIRS];
        final Noise[] noises = new Noise[MOST_NOISES];
        final Will will = new Will();
        /** COST from each ROOM to each, kept as long as no DOOR comes and no CARPET is laid. */
        final int[] ways = new int[MOST_ROOMS * MOST_ROOMS];
        /** Of each of the latest HOURS six bits a ROOM: who sat there. */
        final long[] past = new long[MOST_PAST];
        int texts = 0;
        int time = 0;
        int stormy = 0;
        boolean storm = false;
        int chest = 0;
        int paid = 0;
        int soundings = 0;
        int seed = 1;

        House() {
            for (int door = 0; door < MOST_DOORS; door++) {
                doors[door] = new Door();
            }
            for (int heir = 0; heir < MOST_HEIRS; heir++) {
                heirs[heir] = new Heir();
            }
            for (int noise = 0; noise < MOST_NOISES; noise++) {
                noises[noise] = new Noise();
            }
        }

        void copyFrom(House house) {
            roomCount = house.roomCount;
            doorCount = house.doorCount;
            heirCount = house.heirCount;
            noiseCount = house.noiseCount;
            texts = house.texts;
            time = house.time;
            stormy = house.stormy;
            storm = house.storm;
            chest = house.chest;
            paid = house.paid;
            soundings = house.soundings;
            seed = house.seed;
            System.arraycopy(house.carpets, 0, carpets, 0, MOST_ROOMS);
            System.arraycopy(house.ways, 0, ways, 0, MOST_ROOMS * MOST_ROOMS);
            System.arraycopy(house.past, 0, past, 0, MOST_PAST);
            for (int door = 0; door < MOST_DOORS; door++) {
                doors[door].copyFrom(house.doors[door]);
            }
            for (int heir = 0; heir < MOST_HEIRS; heir++) {
                heirs[heir].copyFrom(house.heirs[heir]);
            }
            for (int noise = 0; noise < MOST_NOISES; noise++) {
                noises[noise].copyFrom(house.noises[noise]);
            }
            will.copyFrom(house.will);
        }

        void addRoom(int carpet) {
            if (roomCount < MOST_ROOMS) {
                carpets[roomCount] = carpet;
                roomCount++;
            }
        }

        void addDoor(int one, int other, int hold) {
            if (doorCount < MOST_DOORS) {
                Door door = doors[doorCount];
                door.one = one;
                door.other = other;
                door.hold = hold;
                doorCount++;
            }
        }

        void addHeir(int room, int ear) {
            if (heirCount < MOST_HEIRS) {
                heirs[heirCount].room = room;
                heirs[heirCount].ear = ear;
                heirCount++;
            }
        }

        Noise addNoise() {
            int slot = Math.min(noiseCount, MOST_NOISES - 1);
            noiseCount = slot + 1;
            return noises[slot];
        }

        boolean hasRoom(int room) {
            return room >= 0 && room < roomCount;
        }

        void lay(int room, int carpet) {
            carpets[room] = carpet;
            findWays();
        }

        void findWays() {
            for (int from = 0; from < roomCount; from++) {
                for (int to = 0; to < roomCount; to++) {
                    ways[from * MOST_ROOMS + to] = from == to ? 0 : NO_WAY;
                }
            }
            for (int door = 0; door < doorCount; door++) {
                Door one = doors[door];
                shorten(one.one, one.other, one.hold + carpets[one.other]);
                shorten(one.other, one.one, one.hold + carpets[one.one]);
            }
            for (int by = 0; by < roomCount; by++) {
                for (int from = 0; from < roomCount; from++) {
                    for (int to = 0; to < roomCount; to++) {
                        shorten(from, to, way(from, by) + way(by, to));
                    }
                }
            }
        }

        private void shorten(int from, int to, int way) {
            if (way < ways[from * MOST_ROOMS + to]) {
                ways[from * MOST_ROOMS + to] = way;
            }
        }

        int way(int from, int to) {
            return ways[from * MOST_ROOMS + to];
        }

        boolean hasDoor(int from, int to) {
            for (int door = 0; door < doorCount; door++) {
                if (doors[door].leads(from, to)) {
                    return true;
                }
            }
            return false;
        }

        int doorsOf(int room) {
            int found = 0;
            for (int door = 0; door < doorCount; door++) {
                if (doors[door].one == room || doors[door].other == room) {
                    found++;
                }
            }
            return found;
        }

        int sittingIn(int room) {
            int found = 0;
            for (int heir = 0; heir < heirCount; heir++) {
                if (heirs[heir].room == room) {
                    found++;
                }
            }
            return found;
        }

        /** How loud it is in one ROOM, what is so loud in another. */
        int reach(int from, int loud, int to) {
            int way = ways[from * MOST_ROOMS + to];
            return way >= NO_WAY ? 0 : Math.max(0, loud - way - carpets[from]);
        }

        int loudAt(Noise noise, int room) {
            return reach(noise.room, noise.loud - noise.oil, room);
        }

        int loudnessOf(int room) {
            int sum = 0;
            for (int noise = 0; noise < noiseCount; noise++) {
                sum += loudAt(noises[noise], room);
            }
            return sum;
        }

        /** What it is AT the ROOM of an HEIR who HEARS it, else 0. */
        int heardLoudness(Heir heir, Noise noise) {
            int loud = reach(noise.room, noise.loud - noise.oil, heir.room);
            return loud >= heir.ear ? loud : 0;
        }

        int heardBy(Heir heir) {
            int bits = 0;
            for (int noise = 0; noise < noiseCount; noise++) {
                if (heardLoudness(heir, noises[noise]) > 0) {
                    bits |= 1 << noise;
                }
            }
            return bits;
        }

        boolean isHeard(Noise noise) {
            for (int heir = 0; heir < heirCount; heir++) {
                if (heardLoudness(heirs[heir], noise) > 0) {
                    return true;
                }
            }
            return false;
        }

        int weight(Noise noise, int room, int pitch) {
            int near = Math.max(0, 10 - Math.abs(noise.pitch - pitch));
            return near * loudAt(noise, room);
        }

        long winter(Noise noise, int days) {
            long hours = (long) days * DAY_HOURS;
            switch (noise.kind) {
                case CLOCK:
                    return 100L * Integer.bitCount(noise.rate) * days;
                case WEATHER:
                    return stormy * hours;
                case BEAST:
                    return noise.rate * hours;
                default:
                    return 0;
            }
        }

        long dueFor(Noise noise, int days) {
            return isHeard(noise) ? winter(noise, days) * noise.worth : 0;
        }

        long dueOfAll(int days) {
            long sum = 0;
            for (int noise = 0; noise < noiseCount; noise++) {
                sum += dueFor(noises[noise], days);
            }
            return sum;
        }

        int hourOfDay() {
            return time % DAY_HOURS;
        }

        int draw() {
            seed = 1103515245 * seed + 12345;
            return seed >> 16 & 32767;
        }

        /** Draws for a beast, and uses up that a foot was made to. */
        boolean soundsNow(Noise noise) {
            switch (noise.kind) {
                case CLOCK:
                    return (noise.rate >> hourOfDay() & 1) != 0;
                case WEATHER:
                    return storm;
                case BEAST:
                    return draw() % 100 < noise.rate;
                default:
                    boolean made = noise.made;
                    noise.made = false;
                    return made;
            }
        }

        void rememberSeats() {
            long seats = 0;
            for (int heir = 0; heir < heirCount; heir++) {
                seats |= 1L << heirs[heir].room * MOST_HEIRS + heir;
            }
            past[slotOf(time)] = seats;
        }

        /** No HOUR, however many went by, tells a slot that is not there. */
        private static int slotOf(int hour) {
            return Math.floorMod(hour, MOST_PAST);
        }

        int satSince(int since, int room) {
            long seats = 0;
            for (int hour = Math.max(since, time - MOST_PAST); hour < time; hour++) {
                seats |= past[slotOf(hour)];
            }
            return (int) (seats >> room * MOST_HEIRS) & (1 << MOST_HEIRS) - 1;
        }
    }

    /** The TITLES to a NOISE, and how an amount is PARTED by them. */
    private static final class Parting {
        private int heirCount = 0;
        final int[] titles = new int[MOST_HEIRS];
        int allTitles = 0;
        final long[] shares = new long[MOST_HEIRS];
        long toChest = 0;

        void weigh(House house, int noise) {
            heirCount = house.heirCount;
            allTitles = 0;
            for (int heir = 0; heir < heirCount; heir++) {
                boolean hears = house.heardLoudness(house.heirs[heir], house.noises[noise]) > 0;
                titles[heir] = house.will.titleOf(house, heir, noise, hears);
                allTitles += titles[heir];
            }
        }

        void divide(long amount) {
            long left = amount;
            for (int heir = 0; heir < heirCount; heir++) {
                shares[heir] = allTitles <= 0 ? 0 : amount * titles[heir] / allTitles;
                left -= shares[heir];
            }
            toChest = allTitles <= 0 ? amount : 0;
            for (int heir = 0; heir < heirCount; heir++) {
                if (titles[heir] > 0 && placeOf(heir) < left) {
                    shares[heir]++;
                }
            }
        }

        /** How many come ahead of an HEIR, when what is left over is given. */
        private int placeOf(int heir) {
            int ahead = 0;
            for (int other = 0; other < heirCount; other++) {
                boolean first = titles[other] > titles[heir] || titles[other] == titles[heir] && other < heir;
                ahead += first ? 1 : 0;
            }
            return ahead;
        }
    }

    /** Looks through the sets of NOISES for the one to be stopped. */
    private static final class Quieting {
        private final int[] louds = new int[MOST_NOISES];
        private final long[] dues = new long[MOST_NOISES];
        private int noiseCount = 0;
        private int target = 0;
        private int best = 0;
        private long bestDue = 0;

        int find(House house, int room, int most, int days) {
            noiseCount = house.noiseCount;
            target = most;
            best = (1 << noiseCount) - 1;
            bestDue = 0;
            for (int noise = 0; noise < noiseCount; noise++) {
                louds[noise] = house.loudAt(house.noises[noise], room);
                dues[noise] = house.dueFor(house.noises[noise], days);
                bestDue += dues[noise];
            }
            choose(0, 0, 0, 0);
            return best;
        }

        private void choose(int noise, int stopped, long sum, int loud) {
            if (loud > target || sum > bestDue) {
                return;
            }
            if (noise >= noiseCount) {
                if (isBetter(stopped, sum)) {
                    best = stopped;
                    bestDue = sum;
                }
                return;
            }
            choose(noise + 1, stopped, sum, loud + louds[noise]);
            choose(noise + 1, stopped | 1 << noise, sum + dues[noise], loud);
        }

        private boolean isBetter(int stopped, long sum) {
            if (sum != bestDue) {
                return sum < bestDue;
            }
            int fewer = Integer.compare(Integer.bitCount(stopped), Integer.bitCount(best));
            return fewer < 0 || fewer == 0 && stopped < best;
        }
    }

    /** The latest ACTS, each with what stood there ahead of it. */
    private static final class Acts {
        static final int GO = 0;
        static final int MAKE = 1;
        static final int OIL = 2;
        static final int CARPET = 3;

        final int[] sorts = new int[MOST_ACTS];
        final int[] which = new int[MOST_ACTS];
        final int[] before = new int[MOST_ACTS];
        /** SEED is no ACT, but all is as ahead of an ACT that is undone. */
        final int[] seeds = new int[MOST_ACTS];
        int count = 0;
        private int next = 0;

        void remember(int sort, int one, int was, int seed) {
            sorts[next] = sort;
            which[next] = one;
            before[next] = was;
            seeds[next] = seed;
            next = (next + 1) % MOST_ACTS;
            count = Math.min(MOST_ACTS, count + 1);
        }

        int takeLatest() {
            if (count == 0) {
                return NONE;
            }
            count--;
            next = (next + MOST_ACTS - 1) % MOST_ACTS;
            return next;
        }

        void forget() {
            count = 0;
        }
    }

    /** THE WILL, each condition as a code that is worked off with a stack. */
    private static final class Will {
        static final int BAR = -1;
        /** The four KINDS are codes 0 to 3. */
        static final int STORM = 4;
        static final int HEARS = 5;
        static final int PITCH = 6;
        static final int LOUD = 7;
        static final int HOUR = 8;
        static final int ROOM = 9;
        static final int NUMBER_OF = 10;
        static final int OILED = 11;
        static final int NOT = 12;
        static final int OR = 13;
        static final int AND = 14;
        static final int PLUS = 15;
        static final int LESS = 16;
        static final int MORE = 17;
        static final int NUMBER = 18;
        /** Two for each of seven levels, and three for a comparison of sums. */
        private static final int STACK_SIZE = 2 * (MOST_DEEP + 1) + 3;

        final int[] heirs = new int[MOST_WILL_LINES];
        final int[] parts = new int[MOST_WILL_LINES];
        /** Where the code of a LINE ends; it begins where the one ahead of it ends. */
        final int[] ends = new int[MOST_WILL_LINES];
        final int[] codes = new int[TAPE_SIZE];
        int lines = NONE;
        int length = 0;
        private final int[] stack = new int[STACK_SIZE];

        void copyFrom(Will will) {
            System.arraycopy(will.heirs, 0, heirs, 0, MOST_WILL_LINES);
            System.arraycopy(will.parts, 0, parts, 0, MOST_WILL_LINES);
            System.arraycopy(will.ends, 0, ends, 0, MOST_WILL_LINES);
            System.arraycopy(will.codes, 0, codes, 0, TAPE_SIZE);
            lines = will.lines;
            length = will.length;
        }

        void clear() {
            lines = 0;
            length = 0;
        }

        void addCode(int code) {
            if (length < TAPE_SIZE) {
                codes[length] = code;
                length++;
            }
        }

        void addLine(int heir, int part) {
            if (lines >= 0 && lines < MOST_WILL_LINES) {
                heirs[lines] = heir;
                parts[lines] = part;
                ends[lines] = length;
                lines++;
            }
        }

        int titleOf(House house, int heir, int noise, boolean hears) {
            int sum = 0;
            for (int line = 0; line < lines; line++) {
                if (heirs[line] == heir && holds(line, house, noise, hears)) {
                    if (parts[line] == BAR) {
                        return 0;
                    }
                    sum += parts[line];
                }
            }
            return sum;
        }

        private boolean holds(int line, House house, int noise, boolean hears) {
            int begin = line == 0 ? 0 : ends[line - 1];
            int top = 0;
            for (int at = begin; at < ends[line]; at++) {
                int code = codes[at];
                if (code == NOT && top >= 1) {
                    stack[top - 1] = 1 - stack[top - 1];
                } else if (code >= OR && code <= MORE && top >= 2) {
                    top--;
                    stack[top - 1] = joined(code, stack[top - 1], stack[top]);
                } else if (top < STACK_SIZE) {
                    stack[top] = fact(code, house, noise, hears);
                    top++;
                }
            }
            return top == 0 || stack[0] != 0;
        }

        private static int joined(int code, int left, int right) {
            switch (code) {
                case OR:
                    return left | right;
                case AND:
                    return left & right;
                case PLUS:
                    return left + right;
                case LESS:
                    return left < right ? 1 : 0;
                default:
                    return left > right ? 1 : 0;
            }
        }

        private static int fact(int code, House house, int noise, boolean hears) {
            Noise one = house.noises[noise];
            switch (code) {
                case STORM:
                    return house.storm ? 1 : 0;
                case HEARS:
                    return hears ? 1 : 0;
                case PITCH:
                    return one.pitch;
                case LOUD:
                    return one.loud;
                case HOUR:
                    return house.time % DAY_HOURS;
                case ROOM:
                    return one.room;
                case NUMBER_OF:
                    return noise;
                case OILED:
                    return one.oil;
                default:
                    return code >= NUMBER ? code - NUMBER : one.kind == code ? 1 : 0;
            }
        }
    }

    /** The TAPE, and the text that stood on it, thing by thing: words, numbers, signs, and its end. */
    private static final class Tape {
        private static final int END = 0;
        private static final int WORD = 1;
        private static final int NUMBER = 2;
        private static final int SIGN = 3;
        private static final int MOST_DIGITS = 3;

        private final byte[] bytes = new byte[TAPE_SIZE];
        int size = 0;
        /** Of the text that is read; the TAPE itself is used up then. */
        private int length = 0;
        private int begin = 0;
        private int after = 0;
        private int sort = END;
        /** NONE of a thing that is no number, or one of too many digits. */
        int number = NONE;
        int fault = NONE;

        void put(int four) {
            for (int shift = 24; shift >= 0 && size < TAPE_SIZE; shift -= 8) {
                bytes[size] = (byte) (four >> shift);
                size++;
            }
        }

        int useUp() {
            int used = size;
            size = 0;
            return used;
        }

        int byteAt(int at) {
            return at < 0 || at >= TAPE_SIZE ? NONE : bytes[at] & 255;
        }

        void open() {
            length = useUp();
            after = 0;
            fault = NONE;
            step();
        }

        void step() {
            begin = after;
            while (begin < length && bytes[begin] == ' ') {
                begin++;
            }
            after = begin;
            number = NONE;
            sort = sortOf(begin);
            if (sort == WORD || sort == NUMBER) {
                while (after < length && sortOf(after) == sort) {
                    after++;
                }
            } else if (sort == SIGN) {
                after++;
            }
            if (sort == NUMBER && after - begin <= MOST_DIGITS) {
                number = 0;
                for (int at = begin; at < after; at++) {
                    number = 10 * number + bytes[at] - '0';
                }
            }
        }

        private int sortOf(int at) {
            if (at >= length) {
                return END;
            }
            int sign = bytes[at];
            return sign >= 'a' && sign <= 'z' ? WORD : sign >= '0' && sign <= '9' ? NUMBER : SIGN;
        }

        /** What cannot stand here is the first wrong thing; at the end, more must come. */
        void check(boolean fits) {
            if (!fits) {
                fault = begin;
                throw new IllegalArgumentException("the text is wrong");
            }
        }

        boolean isOver() {
            return sort == END;
        }

        boolean isNumber() {
            return sort == NUMBER;
        }

        boolean isSign(char sign) {
            return sort == SIGN && bytes[begin] == sign;
        }

        boolean isWord(String word) {
            if (sort != WORD || after - begin != word.length()) {
                return false;
            }
            for (int at = 0; at < word.length(); at++) {
                if (bytes[begin + at] != word.charAt(at)) {
                    return false;
                }
            }
            return true;
        }

        boolean takesWord(String word) {
            boolean fits = isWord(word);
            if (fits) {
                step();
            }
            return fits;
        }

        boolean takesSign(char sign) {
            boolean fits = isSign(sign);
            if (fits) {
                step();
            }
            return fits;
        }

        void needWord(String word) {
            check(isWord(word));
            step();
        }

        void needSign(char sign) {
            check(isSign(sign));
            step();
        }

        int needNumber(int least, int most) {
            check(number != NONE && number >= least && number <= most);
            int read = number;
            step();
            return read;
        }

        /** The KIND that the word here names; it stays here. */
        int kindHere() {
            return isWord("clock") ? CLOCK : isWord("weather") ? WEATHER
                    : isWord("beast") ? BEAST : isWord("foot") ? FOOT : NONE;
        }

        /** Behind a LINE: whether another one must come. */
        boolean hasNextLine() {
            if (takesSign(';')) {
                return true;
            }
            check(isOver());
            return false;
        }
    }

    /** Reads a text of THE HOUSE. */
    private static final class HouseText {
        static void read(Tape text, House house) {
            boolean more = !text.isOver();
            for (int line = 0; more && line <= MOST_HOUSE_LINES; line++) {
                text.check(line < MOST_HOUSE_LINES);
                readLine(text, house);
                more = text.hasNextLine();
            }
        }

        private static void readLine(Tape text, House house) {
            if (begins(text, "room", house.roomCount < MOST_ROOMS)) {
                house.addRoom(text.needNumber(0, MOST_CARPET));
            } else if (begins(text, "door", house.doorCount < MOST_DOORS)) {
                readDoor(text, house);
            } else if (begins(text, "heir", house.heirCount < MOST_HEIRS)) {
                readHeir(text, house);
            } else if (begins(text, "noise", house.noiseCount < MOST_NOISES)) {
                readNoise(text, house);
            } else if (begins(text, "stormy", true)) {
                house.stormy = text.needNumber(0, 100);
            } else {
                text.needWord("carpet");
                int room = readRoom(text, house);
                house.carpets[room] = text.needNumber(0, MOST_CARPET);
            }
        }

        private static boolean begins(Tape text, String word, boolean free) {
            boolean same = text.isWord(word);
            if (same) {
                text.check(free);
                text.step();
            }
            return same;
        }

        private static int readRoom(Tape text, House house) {
            return text.needNumber(0, house.roomCount - 1);
        }

        private static void readDoor(Tape text, House house) {
            int one = readRoom(text, house);
            text.check(text.number != one);
            int other = readRoom(text, house);
            house.addDoor(one, other, text.needNumber(1, 30));
        }

        private static void readHeir(Tape text, House house) {
            text.needWord("in");
            int room = readRoom(text, house);
            text.needWord("ear");
            house.addHeir(room, text.needNumber(1, 50));
        }

        private static void readNoise(Tape text, House house) {
            int kind = text.kindHere();
            text.check(kind != NONE);
            text.step();
            Noise noise = house.addNoise();
            noise.kind = kind;
            noise.rate = readRate(text, kind);
            text.needWord("in");
            noise.room = readRoom(text, house);
            text.needWord("pitch");
            noise.pitch = text.needNumber(0, 99);
            text.needWord("loud");
            noise.loud = text.needNumber(1, MOST_LOUD);
            text.needWord("worth");
            noise.worth = text.needNumber(0, 99);
        }

        private static int readRate(Tape text, int kind) {
            if (kind == BEAST) {
                return text.needNumber(0, 100);
            }
            int hours = 0;
            if (kind == CLOCK) {
                hours = 1 << text.needNumber(0, DAY_HOURS - 1);
                for (int more = 0; more < TAPE_SIZE && text.isNumber(); more++) {
                    hours |= 1 << text.needNumber(0, DAY_HOURS - 1);
                }
            }
            return hours;
        }
    }

    /** Reads a text of THE WILL. */
    private static final class WillText {
        static void read(Tape text, Will will) {
            will.clear();
            boolean more = !text.isOver();
            for (int line = 0; more && line <= MOST_WILL_LINES; line++) {
                text.check(line < MOST_WILL_LINES);
                readLine(text, will);
                more = text.hasNextLine();
            }
        }

        private static void readLine(Tape text, Will will) {
            boolean bars = text.takesWord("bar");
            if (!bars) {
                text.needWord("to");
            }
            int heir = text.needNumber(0, MOST_HEIRS - 1);
            int part = Will.BAR;
            if (!bars) {
                text.needWord("part");
                part = text.needNumber(0, 999);
            }
            if (text.takesWord("if")) {
                readAny(text, will, 0);
            }
            will.addLine(heir, part);
        }

        private static void readAny(Tape text, Will will, int depth) {
            readAll(text, will, depth);
            for (int more = 0; more < TAPE_SIZE && text.takesWord("or"); more++) {
                readAll(text, will, depth);
                will.addCode(Will.OR);
            }
        }

        private static void readAll(Tape text, Will will, int depth) {
            readAtom(text, will, depth);
            for (int more = 0; more < TAPE_SIZE && text.takesWord("and"); more++) {
                readAtom(text, will, depth);
                will.addCode(Will.AND);
            }
        }

        private static void readAtom(Tape text, Will will, int depth) {
            boolean denies = text.isWord("not");
            if (denies || text.isSign('(')) {
                text.check(depth < MOST_DEEP);
                text.step();
                if (denies) {
                    readAtom(text, will, depth + 1);
                    will.addCode(Will.NOT);
                } else {
                    readAny(text, will, depth + 1);
                    text.needSign(')');
                }
                return;
            }
            int code = plainCode(text);
            if (code == NONE) {
                readComparison(text, will);
            } else {
                text.step();
                will.addCode(code);
            }
        }

        private static int plainCode(Tape text) {
            return text.isWord("storm") ? Will.STORM : text.isWord("hears") ? Will.HEARS : text.kindHere();
        }

        private static void readComparison(Tape text, Will will) {
            readSum(text, will);
            boolean less = text.isSign('<');
            text.check(less || text.isSign('>'));
            text.step();
            readSum(text, will);
            will.addCode(less ? Will.LESS : Will.MORE);
        }

        private static void readSum(Tape text, Will will) {
            boolean more = true;
            for (int parts = 0; more && parts < TAPE_SIZE; parts++) {
                int code = text.number != NONE ? Will.NUMBER + text.number : wordCode(text);
                text.check(code != NONE);
                text.step();
                will.addCode(code);
                if (parts > 0) {
                    will.addCode(Will.PLUS);
                }
                more = text.isSign('+');
                if (more) {
                    text.step();
                }
            }
        }

        private static int wordCode(Tape text) {
            return text.isWord("pitch") ? Will.PITCH : text.isWord("loud") ? Will.LOUD
                    : text.isWord("hour") ? Will.HOUR : text.isWord("room") ? Will.ROOM
                    : text.isWord("noise") ? Will.NUMBER_OF : text.isWord("oil") ? Will.OILED : NONE;
        }
    }
}
