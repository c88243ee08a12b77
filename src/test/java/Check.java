import java.io.IOException;
import java.nio.file.Files;
import java.nio.file.Path;

/** What every test of the project shares: it counts wrong answers and types texts. */
final class Check {
    private static final Path DOCUMENT = Path.of("../shared/DOC.md");

    private int wrong = 0;
    private int asked = 0;
    private String document = "";
    private String sentence = "";

    void due(String call, long got, long want) {
        asked++;
        if (got != want) {
            wrong++;
            System.out.println(sentence + call + " answered " + got + ", due is " + want);
        }
    }

    /** What follows tests these words of the document; they must stand there. */
    void says(String words) {
        sentence = "";
        if (Files.exists(DOCUMENT)) {
            due("the document says \"" + words + "\"", document().contains(words) ? 1 : 0, 1);
        }
        sentence = "\"" + words + "\": ";
    }

    private String document() {
        if (document.isEmpty()) {
            try {
                document = Files.readString(DOCUMENT).replaceAll("\\s+", " ");
            } catch (IOException e) {
                document = "could not be read";
            }
        }
        return document;
    }

    /** Prints how many answers were wrong, and ends the program if there was one. */
    void end() {
        System.out.println(asked + " answers, " + wrong + " wrong");
        if (wrong != 0 || asked == 0) {
            System.exit(1);
        }
    }

    static void write(NineActs x, String text) {
        for (int from = 0; from < text.length(); from += 8) {
            String part = text.substring(from, Math.min(text.length(), from + 8));
            x.type(bytes(part), part.length());
        }
    }

    static long bytes(String part) {
        long v = 0;
        for (int k = 0; k < part.length(); k++) {
            v = v << 8 | part.charAt(k);
        }
        return v;
    }

    static NineActs told(String text) {
        NineActs x = new NineActs();
        write(x, text);
        x.acts();
        return x;
    }

    /** A new object with acts told and put on the bill in an order of figures. */
    static NineActs billed(String text, String order) {
        NineActs x = told(text);
        for (int k = 0; k < order.length(); k++) {
            x.place(order.charAt(k) - '0');
        }
        return x;
    }

    /** A bill of all acts of a text, with tunes given as what, v, what, v .. */
    static NineActs tuned(String text, int... tunes) {
        NineActs x = told(text);
        for (int i = 0; i < x.count(0); i++) {
            x.place(i);
        }
        for (int k = 0; k + 1 < tunes.length; k += 2) {
            x.tune(tunes[k], tunes[k + 1]);
        }
        return x;
    }

    static int fault(String text) {
        NineActs x = new NineActs();
        write(x, text);
        return x.acts();
    }
}
