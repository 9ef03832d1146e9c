import java.io.IOException;
import java.nio.file.Files;
import java.nio.file.Path;
import java.util.function.LongSupplier;

/** Counts the answers that are not as due, and writes texts on the TAPE. */
final class Check {
    private static final Path DOCUMENT = Path.of("../shared/DOC.md");

    private final String test;
    private String name;
    private int wrong = 0;
    private int asked = 0;
    private int sentences = 0;

    Check(String name) {
        this.test = name;
        this.name = name;
    }

    /** What follows tests these words of the document; they must stand there. */
    void sentence(String words) {
        sentences++;
        name = test + " [" + words + "]";
        asked++;
        if (!DOCUMENT_TEXT.isEmpty() && !DOCUMENT_TEXT.contains(words)) {
            wrong++;
            System.out.println(name + ": the document does not have these words");
        }
    }

    private static final String DOCUMENT_TEXT = document();

    /** Blanks and ends of lines alike; empty where the document is not there. */
    private static String document() {
        try {
            return Files.exists(DOCUMENT) ? Files.readString(DOCUMENT).replaceAll("\\s+", " ") : "";
        } catch (IOException e) {
            return "";
        }
    }

    void same(String call, String want, String got) {
        asked++;
        if (!want.equals(got)) {
            wrong++;
            System.out.println(name + ": " + call + " answered\n  " + got + ", due is\n  " + want);
        }
    }

    void due(String call, long want, long got) {
        asked++;
        if (want != got) {
            wrong++;
            System.out.println(name + ": " + call + " answered " + got + ", due is " + want);
        }
    }

    void due(String call, boolean want, boolean got) {
        due(call, want ? 1 : 0, got ? 1 : 0);
    }

    void refused(String call, Class<? extends RuntimeException> want, LongSupplier ask) {
        asked++;
        try {
            long got = ask.getAsLong();
            wrong++;
            System.out.println(name + ": " + call + " answered " + got + ", due is " + want.getName());
        } catch (RuntimeException e) {
            if (e.getClass() != want) {
                wrong++;
                System.out.println(name + ": " + call + " threw " + e.getClass().getName() + ", due is " + want.getName());
            }
        }
    }

    void outOfBounds(String call, LongSupplier ask) {
        refused(call, IndexOutOfBoundsException.class, ask);
    }

    void illegal(String call, LongSupplier ask) {
        refused(call, IllegalArgumentException.class, ask);
    }

    void noSuch(String call, LongSupplier ask) {
        refused(call, java.util.NoSuchElementException.class, ask);
    }

    /** The text is a right one of THE HOUSE. */
    void house(NoiseHouse x, String text) {
        write(x, text);
        x.house();
        due("fault() of " + text, NoiseHouse.NONE, x.fault());
    }

    void wrongHouse(NoiseHouse x, String text, int fault) {
        write(x, text);
        illegal("house() of " + text, x::house);
        due("fault() of house " + text, fault, x.fault());
        due("the TAPE is used up", true, x.end(0) && !x.end(1));
    }

    /** The text is a right one of THE WILL. */
    void will(NoiseHouse x, String text, int lines) {
        write(x, text);
        due("will() of " + text, lines, x.will());
        due("fault() of will " + text, NoiseHouse.NONE, x.fault());
    }

    void wrongWill(NoiseHouse x, String text, int fault) {
        write(x, text);
        illegal("will() of " + text, x::will);
        due("fault() of will " + text, fault, x.fault());
        due("the TAPE is used up", true, x.end(0) && !x.end(1));
    }

    static void write(NoiseHouse x, String text) {
        x.end(0);
        for (int at = 0; at < text.length(); at += 20) {
            x.feed(four(text, at), four(text, at + 4), four(text, at + 8), four(text, at + 12), four(text, at + 16));
        }
        if (!x.end(text.length())) {
            throw new IllegalStateException("a test's text is too long for the TAPE: " + text.length());
        }
    }

    private static int four(String text, int at) {
        int number = 0;
        for (int i = at; i < at + 4; i++) {
            number = number << 8 | (i < text.length() ? text.charAt(i) & 255 : 0);
        }
        return number;
    }

    void finish() {
        String told = sentences == 0 ? "" : sentences + " sentences, ";
        System.out.println(test + ": " + told + asked + " answers, " + wrong + " not as due");
        if (wrong != 0 || asked == 0) {
            System.exit(1);
        }
    }
}
