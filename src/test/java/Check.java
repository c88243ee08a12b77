/** What every test of the project shares: it counts wrong answers and types texts. */
final class Check {
    private int wrong = 0;
    private int asked = 0;

    void due(String call, long got, long want) {
        asked++;
        if (got != want) {
            wrong++;
            System.out.println(call + " answered " + got + ", due is " + want);
        }
    }

    /** Prints how many answers were wrong, and ends the program if there was one. */
    void end() {
        System.out.println(asked + " answers, " + wrong + " wrong");
        if (wrong != 0 || asked == 0) {
            System.exit(1);
        }
    }

    static void write(NineActs x, String text) {
        for (int from = 0; from < text.length(); from += 8) {
            String part = text.substring(from, Math.min(text.length(), from + 8));
            x.type(bytes(part), part.length());
        }
    }

    static long bytes(String part) {
        long v = 0;
        for (int k = 0; k < part.length(); k++) {
            v = v << 8 | part.charAt(k);
        }
        return v;
    }

    static NineActs told(String text) {
        NineActs x = new NineActs();
        write(x, text);
        x.acts();
        return x;
    }

    /** A new object with acts told and put on the bill in an order of figures. */
    static NineActs billed(String text, String order) {
        NineActs x = told(text);
        for (int k = 0; k < order.length(); k++) {
            x.place(order.charAt(k) - '0');
        }
        return x;
    }

    static int fault(String text) {
        NineActs x = new NineActs();
        write(x, text);
        return x.acts();
    }
}
