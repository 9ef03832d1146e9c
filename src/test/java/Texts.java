import java.util.Random;

/** Makes texts up: right ones, and right ones in which something was spoilt. */
final class Texts {
    private static final String[] SPOILS = {"room", "door", "heir", "noise", "in", "ear", "clock", "weather", "beast",
        "foot", "pitch", "loud", "worth", "stormy", "carpet", "to", "bar", "part", "if", "and", "or", "not", "(", ")",
        "<", ">", "+", ";", "hears", "storm", "hour", "oil", "0", "1", "7", "21", "100", "999", "1000", "0001", "x",
        "roomy", "A", "-", "\t", "\0", "\u00ff", "", " "};

    private final Random random;

    Texts(Random random) {
        this.random = random;
    }

    int below(int n) {
        return random.nextInt(n);
    }

    private String pick(String... from) {
        return from[below(from.length)];
    }

    private String room(int rooms) {
        return String.valueOf(below(Math.max(1, rooms + (below(60) == 0 ? 1 : 0))));
    }

    /** A text of THE HOUSE behind those that told so many; seldom of one too many. */
    String house(int roomsBefore, int doorsBefore, int heirsBefore, int noisesBefore) {
        StringBuilder text = new StringBuilder();
        int rooms = roomsBefore;
        int doors = doorsBefore;
        int heirs = heirsBefore;
        int noises = noisesBefore;
        int lines = below(40) == 0 ? 15 : 1 + below(12);
        if (below(30) == 0) {
            lines = 0;
        }
        for (int line = 0; line < lines; line++) {
            text.append(line == 0 ? "" : ";");
            if (rooms < 2 || rooms < 10 && below(5) == 0) {
                text.append("room ").append(below(3) == 0 ? below(21) : below(4));
                rooms++;
            } else {
                String one = houseLine(rooms);
                doors += one.startsWith("door") ? 1 : 0;
                heirs += one.startsWith("heir") ? 1 : 0;
                noises += one.startsWith("noise") ? 1 : 0;
                boolean full = doors > 14 || heirs > 6 || noises > 12;
                text.append(full && below(20) != 0 ? "stormy " + below(101) : one);
            }
        }
        return finish(text.toString());
    }

    private String houseLine(int rooms) {
        switch (below(9)) {
            case 0:
            case 1:
            case 2:
                int a = below(rooms);
                int b = (a + 1 + below(rooms - 1)) % rooms;
                return "door " + a + " " + (below(60) == 0 ? a : b) + " " + (1 + below(below(3) == 0 ? 30 : 8));
            case 3:
            case 5:
                return "heir in " + room(rooms) + " ear " + (1 + below(below(3) == 0 ? 50 : 15));
            case 4:
                return below(2) == 0 ? "stormy " + below(101) : "carpet " + room(rooms) + " " + below(21);
            default:
                return "noise " + sort() + " in " + room(rooms) + " pitch " + below(below(2) == 0 ? 100 : 20) + " loud "
                    + (1 + below(99)) + " worth " + below(100);
        }
    }

    String sort() {
        StringBuilder sort = new StringBuilder(pick("clock", "weather", "beast", "foot"));
        if (sort.toString().equals("beast")) {
            sort.append(' ').append(below(101));
        }
        if (sort.toString().equals("clock")) {
            for (int hours = 1 + below(4); hours > 0; hours--) {
                sort.append(' ').append(below(24));
            }
        }
        return sort.toString();
    }

    String will() {
        StringBuilder text = new StringBuilder();
        int lines = below(40) == 0 ? 13 : below(12);
        for (int line = 0; line < lines; line++) {
            text.append(line == 0 ? "" : ";");
            text.append(below(5) == 0 ? "bar " : "to ").append(below(below(2) == 0 ? 6 : 3));
            if (text.lastIndexOf("bar") < text.lastIndexOf("to ")) {
                text.append(" part ").append(below(3) == 0 ? below(1000) : below(5));
            }
            if (below(2) == 0) {
                text.append(" if ").append(any(below(4) == 0 ? 7 : 2));
            }
        }
        return finish(text.toString());
    }

    private String any(int deep) {
        String text = all(deep);
        while (below(4) == 0) {
            text += " or " + all(deep);
        }
        return text;
    }

    private String all(int deep) {
        String text = atom(deep);
        while (below(4) == 0) {
            text += " and " + atom(deep);
        }
        return text;
    }

    private String atom(int deep) {
        if (deep > 0 && below(deep > 2 ? 8 : 4) != 0 && (deep > 2 || below(3) == 0)) {
            return below(2) == 0 ? "not " + atom(deep - 1) : "(" + any(deep - 1) + ")";
        }
        return below(2) == 0 ? pick("clock", "weather", "beast", "foot", "storm", "hears")
            : sum() + pick("<", ">") + sum();
    }

    private String sum() {
        String text = part();
        while (below(4) == 0) {
            text += " + " + part();
        }
        return text;
    }

    private String part() {
        return below(2) == 0 ? String.valueOf(below(below(2) == 0 ? 30 : 120))
            : pick("pitch", "loud", "hour", "room", "noise", "oil");
    }

    private String finish(String right) {
        String text = right;
        for (int spoils = below(6) == 0 ? 1 + below(2) : 0; spoils > 0; spoils--) {
            int from = below(text.length() + 1);
            int to = Math.min(text.length(), from + below(4));
            text = text.substring(0, from) + SPOILS[below(SPOILS.length)] + text.substring(to);
        }
        if (below(6) == 0) {
            text = " ".repeat(below(3)) + text.replace(";", " ;  ") + " ".repeat(below(3));
        }
        if (below(6) == 0) {
            text = text.replace(" in ", "in").replace(" ear ", "ear").replace("room ", "room").replace(" part ", "part");
        }
        return text.length() > 400 ? text.substring(0, 400) : text;
    }
}
