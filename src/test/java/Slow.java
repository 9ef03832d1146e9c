import java.util.ArrayDeque;
import java.util.ArrayList;
import java.util.Arrays;
import java.util.Deque;
import java.util.List;
import java.util.NoSuchElementException;

/** The document read a second time, in the slowest and plainest way, to compare NoiseHouse with. */
final class Slow {
    static final int NONE = -1;

    interface Condition {
        boolean holds(State s, int heir, int[] noise, int number);
    }

    interface Sum {
        int of(State s, int[] noise, int number);
    }

    static final class WillLine {
        int heir;
        int part;
        boolean bar;
        Condition condition;
    }

    /** Rooms {carpet}; doors {a, b, hold}; heirs {room, ear, coins}; noises as K .. MADE say. */
    static final class State {
        List<int[]> rooms = new ArrayList<>();
        List<int[]> doors = new ArrayList<>();
        List<int[]> heirs = new ArrayList<>();
        List<int[]> noises = new ArrayList<>();
        List<WillLine> will = null;
        List<int[]> past = new ArrayList<>();
        int texts, day, hour, stormy, chest, paid, soundings;
        boolean storm;
        int seed = 1;

        State copy() {
            State s = new State();
            s.rooms = copy(rooms);
            s.doors = copy(doors);
            s.heirs = copy(heirs);
            s.noises = copy(noises);
            s.will = will == null ? null : new ArrayList<>(will);
            s.past = copy(past);
            s.texts = texts;
            s.day = day;
            s.hour = hour;
            s.stormy = stormy;
            s.chest = chest;
            s.paid = paid;
            s.soundings = soundings;
            s.storm = storm;
            s.seed = seed;
            return s;
        }

        private static List<int[]> copy(List<int[]> rows) {
            List<int[]> copied = new ArrayList<>();
            for (int[] row : rows) {
                copied.add(row.clone());
            }
            return copied;
        }
    }

    static final int KIND = 0, ROOM = 1, PITCH = 2, LOUD = 3, WORTH = 4, OIL = 5, RATE = 6, LATEST = 7, TIMES = 8, MADE = 9;

    State s = new State();
    State image = null;
    Deque<State> undos = new ArrayDeque<>();
    String tape = "";
    int fault = NONE;

    // ---- texts

    static final class Wrong extends RuntimeException {
        private static final long serialVersionUID = 1;
        final int at;

        Wrong(int at) {
            this.at = at;
        }
    }

    static final class Reader {
        final List<String> things = new ArrayList<>();
        final List<Integer> begins = new ArrayList<>();
        final int length;
        int at = 0;

        Reader(String text) {
            length = text.length();
            java.util.regex.Matcher m = java.util.regex.Pattern.compile("[a-z]+|[0-9]+|[^ ]", java.util.regex.Pattern.DOTALL).matcher(text);
            while (m.find()) {
                things.add(m.group());
                begins.add(m.start());
            }
        }

        String peek() {
            return at < things.size() ? things.get(at) : "";
        }

        Wrong wrong() {
            return new Wrong(at < begins.size() ? begins.get(at) : length);
        }

        boolean is(String thing) {
            return peek().equals(thing);
        }

        void need(String thing) {
            if (!is(thing)) {
                throw wrong();
            }
            at++;
        }

        boolean numberNext() {
            return peek().matches("[0-9]+");
        }

        int number(int least, int most) {
            if (!peek().matches("[0-9]{1,3}")) {
                throw wrong();
            }
            int n = Integer.parseInt(peek());
            if (n < least || n > most) {
                throw wrong();
            }
            at++;
            return n;
        }
    }

    int house() {
        Reader r = new Reader(tape);
        tape = "";
        fault = NONE;
        State next = s.copy();
        try {
            for (int line = 0; !r.is(""); line++) {
                if (line > 0) {
                    r.need(";");
                }
                if (line == 14) {
                    throw r.wrong();
                }
                houseLine(r, next);
            }
        } catch (Wrong w) {
            fault = w.at;
            throw new IllegalArgumentException();
        }
        if (s.texts == 10) {
            throw new UnsupportedOperationException();
        }
        next.texts++;
        s = next;
        undos.clear();
        return s.texts;
    }

    private static int roomOf(Reader r, State t) {
        return r.number(0, t.rooms.size() - 1);
    }

    private static void full(Reader r, List<int[]> rows, int most) {
        if (rows.size() == most) {
            throw r.wrong();
        }
        r.at++;
    }

    private static void houseLine(Reader r, State t) {
        switch (r.peek()) {
            case "room" -> {
                full(r, t.rooms, 10);
                t.rooms.add(new int[] {r.number(0, 20)});
            }
            case "door" -> {
                full(r, t.doors, 14);
                int a = roomOf(r, t);
                Wrong same = r.wrong();
                int b = roomOf(r, t);
                if (a == b) {
                    throw same;
                }
                t.doors.add(new int[] {a, b, r.number(1, 30)});
            }
            case "heir" -> {
                full(r, t.heirs, 6);
                r.need("in");
                int room = roomOf(r, t);
                r.need("ear");
                t.heirs.add(new int[] {room, r.number(1, 50), 0});
            }
            case "noise" -> {
                full(r, t.noises, 12);
                t.noises.add(noiseOf(r, t));
            }
            case "stormy" -> {
                r.at++;
                t.stormy = r.number(0, 100);
            }
            case "carpet" -> {
                r.at++;
                int room = roomOf(r, t);
                t.rooms.get(room)[0] = r.number(0, 20);
            }
            default -> throw r.wrong();
        }
    }

    private static int[] noiseOf(Reader r, State t) {
        int[] noise = new int[10];
        noise[LATEST] = NONE;
        int kind = Arrays.asList("clock", "weather", "beast", "foot").indexOf(r.peek());
        if (kind < 0) {
            throw r.wrong();
        }
        noise[KIND] = kind;
        r.at++;
        if (kind == 0) {
            do {
                noise[RATE] |= 1 << r.number(0, 23);
            } while (r.numberNext());
        }
        if (kind == 2) {
            noise[RATE] = r.number(0, 100);
        }
        r.need("in");
        noise[ROOM] = roomOf(r, t);
        r.need("pitch");
        noise[PITCH] = r.number(0, 99);
        r.need("loud");
        noise[LOUD] = r.number(1, 99);
        r.need("worth");
        noise[WORTH] = r.number(0, 99);
        return noise;
    }

    int will() {
        Reader r = new Reader(tape);
        tape = "";
        fault = NONE;
        List<WillLine> lines = new ArrayList<>();
        try {
            while (!r.is("")) {
                if (r.at > 0) {
                    r.need(";");
                }
                if (lines.size() == 12) {
                    throw r.wrong();
                }
                lines.add(willLine(r));
            }
        } catch (Wrong w) {
            fault = w.at;
            throw new IllegalArgumentException();
        }
        s.will = lines;
        undos.clear();
        return lines.size();
    }

    private static WillLine willLine(Reader r) {
        WillLine line = new WillLine();
        if (r.is("bar")) {
            line.bar = true;
            r.at++;
            line.heir = r.number(0, 5);
        } else {
            r.need("to");
            line.heir = r.number(0, 5);
            r.need("part");
            line.part = r.number(0, 999);
        }
        line.condition = (s, h, n, k) -> true;
        if (r.is("if")) {
            r.at++;
            line.condition = any(r, 0);
        }
        return line;
    }

    private static Condition any(Reader r, int deep) {
        Condition left = all(r, deep);
        while (r.is("or")) {
            r.at++;
            Condition a = left;
            Condition b = all(r, deep);
            left = (s, h, n, k) -> a.holds(s, h, n, k) || b.holds(s, h, n, k);
        }
        return left;
    }

    private static Condition all(Reader r, int deep) {
        Condition left = atom(r, deep);
        while (r.is("and")) {
            r.at++;
            Condition a = left;
            Condition b = atom(r, deep);
            left = (s, h, n, k) -> a.holds(s, h, n, k) && b.holds(s, h, n, k);
        }
        return left;
    }

    private static Condition atom(Reader r, int deep) {
        String thing = r.peek();
        if ((thing.equals("not") || thing.equals("(")) && deep == 6) {
            throw r.wrong();
        }
        int kind = Arrays.asList("clock", "weather", "beast", "foot").indexOf(thing);
        if (kind >= 0) {
            r.at++;
            return (s, h, n, k) -> n[KIND] == kind;
        }
        switch (thing) {
            case "not" -> {
                r.at++;
                Condition a = atom(r, deep + 1);
                return (s, h, n, k) -> !a.holds(s, h, n, k);
            }
            case "(" -> {
                r.at++;
                Condition a = any(r, deep + 1);
                r.need(")");
                return a;
            }
            case "storm" -> {
                r.at++;
                return (s, h, n, k) -> s.storm;
            }
            case "hears" -> {
                r.at++;
                return (s, h, n, k) -> hears(s, s.heirs.get(h), n);
            }
            default -> {
                Sum a = sum(r);
                String sign = r.peek();
                if (!sign.equals("<")) {
                    r.need(">");
                } else {
                    r.at++;
                }
                Sum b = sum(r);
                return sign.equals("<") ? (s, h, n, k) -> a.of(s, n, k) < b.of(s, n, k)
                        : (s, h, n, k) -> a.of(s, n, k) > b.of(s, n, k);
            }
        }
    }

    private static Sum sum(Reader r) {
        Sum left = summand(r);
        while (r.is("+")) {
            r.at++;
            Sum a = left;
            Sum b = summand(r);
            left = (s, n, k) -> a.of(s, n, k) + b.of(s, n, k);
        }
        return left;
    }

    private static Sum summand(Reader r) {
        if (r.numberNext()) {
            int number = r.number(0, 999);
            return (s, n, k) -> number;
        }
        Sum found = switch (r.peek()) {
            case "pitch" -> (s, n, k) -> n[PITCH];
            case "loud" -> (s, n, k) -> n[LOUD];
            case "hour" -> (s, n, k) -> s.hour;
            case "room" -> (s, n, k) -> n[ROOM];
            case "noise" -> (s, n, k) -> k;
            case "oil" -> (s, n, k) -> n[OIL];
            default -> throw r.wrong();
        };
        r.at++;
        return found;
    }

    // ---- facts

    static int way(State s, int from, int to) {
        int[] best = new int[s.rooms.size()];
        Arrays.fill(best, Integer.MAX_VALUE);
        best[from] = 0;
        for (int round = 0; round < s.rooms.size(); round++) {
            for (int[] d : s.doors) {
                for (int turn = 0; turn < 2; turn++) {
                    int a = d[turn];
                    int b = d[1 - turn];
                    if (best[a] != Integer.MAX_VALUE) {
                        best[b] = Math.min(best[b], best[a] + d[2] + s.rooms.get(b)[0]);
                    }
                }
            }
        }
        return best[to] == Integer.MAX_VALUE ? NONE : best[to];
    }

    static int at(State s, int[] noise, int room) {
        int way = way(s, noise[ROOM], room);
        int loud = noise[LOUD] - noise[OIL] - way - s.rooms.get(noise[ROOM])[0];
        return way == NONE || loud < 0 ? 0 : loud;
    }

    static boolean hears(State s, int[] heir, int[] noise) {
        return at(s, noise, heir[0]) >= heir[1];
    }

    static boolean heard(State s, int[] noise) {
        return s.heirs.stream().anyMatch(h -> hears(s, h, noise));
    }

    static int title(State s, int heir, int noise) {
        int sum = 0;
        if (s.will != null) {
            for (WillLine line : s.will) {
                if (line.heir == heir && line.condition.holds(s, heir, s.noises.get(noise), noise)) {
                    if (line.bar) {
                        return 0;
                    }
                    sum += line.part;
                }
            }
        }
        return sum;
    }

    /** What each HEIR gets, and THE CHEST behind them. */
    static long[] parted(State s, int noise, long amount) {
        int heirs = s.heirs.size();
        long[] got = new long[heirs + 1];
        long all = 0;
        List<int[]> order = new ArrayList<>();
        for (int h = 0; h < heirs; h++) {
            int title = title(s, h, noise);
            all += title;
            if (title > 0) {
                order.add(new int[] {title, h});
            }
        }
        if (all == 0) {
            got[heirs] = amount;
            return got;
        }
        long left = amount;
        for (int[] o : order) {
            got[o[1]] = amount * o[0] / all;
            left -= got[o[1]];
        }
        order.sort((a, b) -> a[0] != b[0] ? b[0] - a[0] : a[1] - b[1]);
        for (int i = 0; left > 0; i++, left--) {
            got[order.get(i)[1]]++;
        }
        return got;
    }

    static long winter(State s, int[] n, int days) {
        long sum = 0;
        for (int hour = 0; hour < 24; hour++) {
            sum += n[KIND] == 0 ? (n[RATE] >> hour & 1) * 100 : n[KIND] == 1 ? s.stormy : n[KIND] == 2 ? n[RATE] : 0;
        }
        return sum * days;
    }

    static long due(State s, int[] n, int days) {
        return heard(s, n) ? winter(s, n, days) * n[WORTH] : 0;
    }

    // ---- the face

    private void room(int room) {
        if (room < 0 || room >= s.rooms.size()) {
            throw new IndexOutOfBoundsException();
        }
    }

    private int[] heirOf(int heir) {
        if (heir < 0 || heir >= s.heirs.size()) {
            throw new IndexOutOfBoundsException();
        }
        return s.heirs.get(heir);
    }

    private int[] noiseOf(int noise) {
        if (noise < 0 || noise >= s.noises.size()) {
            throw new IndexOutOfBoundsException();
        }
        return s.noises.get(noise);
    }

    private static void need(boolean fits) {
        if (!fits) {
            throw new IllegalArgumentException();
        }
    }

    private void act() {
        undos.push(s.copy());
        if (undos.size() > 12) {
            undos.removeLast();
        }
    }

    int room(int room, int what) {
        room(room);
        return switch (what) {
            case 0 -> s.rooms.get(room)[0];
            case 1 -> (int) s.doors.stream().filter(d -> d[0] == room || d[1] == room).count();
            case 2 -> (int) s.heirs.stream().filter(h -> h[0] == room).count();
            case 3 -> s.noises.stream().mapToInt(n -> at(s, n, room)).sum();
            default -> throw new NoSuchElementException();
        };
    }

    int heir(int heir, int what) {
        int[] one = heirOf(heir);
        if (what >= 0 && what < 3) {
            return one[what];
        }
        if (what != 3) {
            throw new NoSuchElementException();
        }
        int bits = 0;
        for (int n = 0; n < s.noises.size(); n++) {
            bits += hears(s, one, s.noises.get(n)) ? 1 << n : 0;
        }
        return bits;
    }

    int noise(int noise, int what) {
        int[] one = noiseOf(noise);
        if (what < 0 || what > 8) {
            throw new NoSuchElementException();
        }
        return one[what];
    }

    int cost(int from, int to) {
        room(from);
        room(to);
        return way(s, from, to);
    }

    int at(int noise, int room) {
        noiseOf(noise);
        room(room);
        return at(s, noiseOf(noise), room);
    }

    int title(int heir, int noise) {
        heirOf(heir);
        noiseOf(noise);
        return title(s, heir, noise);
    }

    int part(int heir, int noise, int amount) {
        if (heir != NONE) {
            heirOf(heir);
        }
        noiseOf(noise);
        need(amount >= 0 && amount <= 99999);
        return (int) parted(s, noise, amount)[heir == NONE ? s.heirs.size() : heir];
    }

    private int draw() {
        s.seed = 1103515245 * s.seed + 12345;
        return (s.seed >>> 16) % 32768;
    }

    int hours(int n) {
        need(n >= 1 && n <= 240);
        undos.clear();
        int before = s.soundings;
        for (int i = 0; i < n; i++) {
            hour();
        }
        return s.soundings - before;
    }

    private void hour() {
        s.storm = draw() % 100 < s.stormy;
        for (int k = 0; k < s.noises.size(); k++) {
            int[] n = s.noises.get(k);
            boolean sounds = switch (n[KIND]) {
                case 0 -> (n[RATE] & 1 << s.hour) != 0;
                case 1 -> s.storm;
                case 2 -> draw() % 100 < n[RATE];
                default -> n[MADE] == 1;
            };
            n[MADE] = 0;
            if (sounds) {
                n[LATEST] = s.day * 24 + s.hour;
                n[TIMES]++;
                s.soundings++;
                if (heard(s, n)) {
                    long[] got = parted(s, k, n[WORTH]);
                    for (int h = 0; h < s.heirs.size(); h++) {
                        s.heirs.get(h)[2] += (int) got[h];
                    }
                    s.chest += (int) got[s.heirs.size()];
                    s.paid += n[WORTH];
                }
            }
        }
        s.past.add(s.heirs.stream().mapToInt(h -> h[0]).toArray());
        s.hour++;
        if (s.hour == 24) {
            s.hour = 0;
            s.day++;
        }
    }

    int go(int heir, int room) {
        int before = heirOf(heir)[0];
        room(room);
        act();
        s.heirs.get(heir)[0] = room;
        return before;
    }

    boolean make(int noise) {
        need(noiseOf(noise)[KIND] == 3);
        act();
        boolean fresh = s.noises.get(noise)[MADE] == 0;
        s.noises.get(noise)[MADE] = 1;
        return fresh;
    }

    int oil(int noise, int n) {
        noiseOf(noise);
        need(n >= 1 && n <= 99);
        act();
        int[] one = noiseOf(noise);
        one[OIL] += n;
        if (one[OIL] > 99) {
            one[OIL] = 99;
        }
        return one[OIL];
    }

    int carpet(int room, int n) {
        room(room);
        need(n >= 0 && n <= 20);
        act();
        int before = s.rooms.get(room)[0];
        s.rooms.get(room)[0] = n;
        return before;
    }

    boolean undo() {
        if (undos.isEmpty()) {
            return false;
        }
        s = undos.pop();
        return true;
    }

    private int[] weights(int room, int pitch) {
        return s.noises.stream().mapToInt(n -> {
            int off = Math.abs(n[PITCH] - pitch);
            return off > 10 ? 0 : (10 - off) * at(s, n, room);
        }).toArray();
    }

    int odds(int noise, int room, int pitch) {
        noiseOf(noise);
        room(room);
        need(pitch >= 0 && pitch <= 99);
        int[] w = weights(room, pitch);
        int all = Arrays.stream(w).sum();
        return all == 0 ? 0 : w[noise] * 10000 / all;
    }

    int likeliest(int room, int pitch) {
        room(room);
        need(pitch >= 0 && pitch <= 99);
        int[] w = weights(room, pitch);
        int most = Arrays.stream(w).max().orElse(0);
        for (int n = 0; n < w.length && most > 0; n++) {
            if (w[n] == most) {
                return n;
            }
        }
        return NONE;
    }

    long due(int noise, int days) {
        noiseOf(noise);
        need(days >= 1 && days <= 200);
        return due(s, noiseOf(noise), days);
    }

    int quiet(int room, int target, int days) {
        room(room);
        need(target >= 0 && target <= 999 && days >= 1 && days <= 200);
        int count = s.noises.size();
        long[] dues = s.noises.stream().mapToLong(n -> due(s, n, days)).toArray();
        int[] louds = s.noises.stream().mapToInt(n -> at(s, n, room)).toArray();
        long[] best = null;
        for (int set = 0; set < 1 << count; set++) {
            long sum = 0;
            int loud = 0;
            for (int n = 0; n < count; n++) {
                sum += (set >> n & 1) * dues[n];
                loud += (1 - (set >> n & 1)) * louds[n];
            }
            long[] here = {sum, Integer.bitCount(set), set};
            if (loud <= target && (best == null || Arrays.compare(here, best) < 0)) {
                best = here;
            }
        }
        return (int) best[2];
    }

    int suspects(int noise) {
        int[] n = noiseOf(noise);
        if (n[LATEST] == NONE) {
            return (1 << s.heirs.size()) - 1;
        }
        int bits = 0;
        for (int hour = 0; hour < s.past.size(); hour++) {
            if (hour >= n[LATEST] && hour >= s.past.size() - 40) {
                int[] sat = s.past.get(hour);
                for (int h = 0; h < sat.length; h++) {
                    int room = sat[h];
                    boolean near = s.doors.stream().anyMatch(
                            d -> d[0] == room && d[1] == n[ROOM] || d[1] == room && d[0] == n[ROOM]);
                    bits |= room == n[ROOM] || near ? 1 << h : 0;
                }
            }
        }
        return bits;
    }

    int ghost(int what) {
        String told = tape;
        tape = "";
        if (what < 0 || what > 2) {
            throw new NoSuchElementException();
        }
        need(told.length() >= 2 && told.length() <= 12 && told.length() % 2 == 0);
        for (int i = 0; i < told.length(); i += 2) {
            need(told.charAt(i) >= 97 && told.charAt(i) < 97 + s.rooms.size() && told.charAt(i + 1) < 100);
        }
        List<int[]> found = new ArrayList<>();
        for (int room = 0; room < s.rooms.size(); room++) {
            for (int loud = 1; loud < 100; loud++) {
                int[] noise = {3, room, 0, loud, 0, 0, 0, 0, 0, 0};
                boolean fits = true;
                for (int i = 0; i < told.length() && fits; i += 2) {
                    fits = at(s, noise, told.charAt(i) - 97) == told.charAt(i + 1);
                }
                if (fits) {
                    found.add(noise);
                }
            }
        }
        return what == 0 ? found.size() : found.isEmpty() ? NONE : found.get(0)[what == 1 ? ROOM : LOUD];
    }

    long breach(int room, int n) {
        room(room);
        need(n >= 0 && n <= 20);
        State other = s.copy();
        other.rooms.get(room)[0] = n;
        long sum = 0;
        for (int k = 0; k < s.noises.size(); k++) {
            sum += due(s, s.noises.get(k), 10) - due(other, other.noises.get(k), 10);
        }
        return sum;
    }

    long silence(int room, int days, int step, boolean paid) {
        room(room);
        need(days >= 1 && days <= 200 && step >= 1 && step <= 999);
        List<Long> open = new ArrayList<>();
        for (int[] n : s.noises) {
            if (at(s, n, room) > 0) {
                open.add(due(s, n, days));
            }
        }
        long sum = 0;
        int round = 0;
        while (!open.isEmpty()) {
            round++;
            long offer = (long) round * step;
            for (int i = open.size() - 1; i >= 0; i--) {
                if (open.get(i) <= offer) {
                    open.remove(i);
                    sum += offer;
                }
            }
            if (round > 9999) {
                return NONE;
            }
        }
        return paid ? sum : round;
    }

    int ears(int heir, int noise) {
        int[] h = heirOf(heir);
        int[] n = noiseOf(noise);
        int all = s.heirs.stream().filter(o -> hears(s, o, n)).mapToInt(o -> at(s, n, o[0])).sum();
        return hears(s, h, n) ? 100 * at(s, n, h[0]) / all : 0;
    }

    int seat(int heir) {
        int[] h = heirOf(heir);
        int best = NONE;
        long most = -1;
        for (int room = 0; room < s.rooms.size(); room++) {
            long sum = 0;
            for (int k = 0; k < s.noises.size(); k++) {
                int[] n = s.noises.get(k);
                long all = 0;
                for (int o = 0; o < s.heirs.size(); o++) {
                    all += title(s, o, k);
                }
                if (at(s, n, room) >= h[1] && all > 0) {
                    sum += winter(s, n, 1) * n[WORTH] * title(s, heir, k) / all;
                }
            }
            if (sum > most) {
                most = sum;
                best = room;
            }
        }
        return best;
    }

    long value(int heir) {
        heirOf(heir);
        long sum = 0;
        for (int k = 0; k < s.noises.size(); k++) {
            sum += parted(s, k, due(s, s.noises.get(k), 100))[heir];
        }
        return sum;
    }

    long sale(boolean sum) {
        int best = NONE;
        for (int h = s.heirs.size() - 1; h >= 0; h--) {
            best = best == NONE || value(h) >= value(best) ? h : best;
        }
        if (!sum || best == NONE) {
            return best;
        }
        long all = 0;
        for (int h = 0; h < s.heirs.size(); h++) {
            all += h == best ? 0 : value(h);
        }
        return all;
    }

    int seed(int n) {
        int before = s.seed;
        s.seed = n;
        return before;
    }

    void image() {
        image = s.copy();
    }

    boolean back() {
        if (image == null) {
            return false;
        }
        s = image.copy();
        undos.clear();
        return true;
    }

    int count(int what) {
        int[] all = {s.rooms.size(), s.doors.size(), s.heirs.size(), s.noises.size(), s.texts,
            s.will == null ? NONE : s.will.size(), s.day, s.hour, s.stormy, s.storm ? 1 : 0,
            s.chest, s.paid, s.soundings, undos.size()};
        return what < 0 || what >= all.length ? NONE : all[what];
    }

    int feed(int a, int b, int c, int d, int e) {
        if (tape.length() + 20 > 400) {
            return NONE;
        }
        StringBuilder more = new StringBuilder(tape);
        for (int number : new int[] {a, b, c, d, e}) {
            for (int shift = 24; shift >= 0; shift -= 8) {
                more.append((char) (number >>> shift & 255));
            }
        }
        tape = more.toString();
        return tape.length();
    }

    boolean end(int n) {
        if (n < 0 || n > tape.length()) {
            return false;
        }
        tape = tape.substring(0, n);
        return true;
    }
}
