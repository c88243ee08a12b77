/** Promises 1 to 8 and "1 ACTS": a test of its own for each sentence that names a boundary case. */
public final class EdgesOfActsTest {
    private static final int BAD = NineActs.BAD;
    private static final int[] FAR = {Integer.MIN_VALUE, -1000000, -256, -9, -2, 256, 1000000, Integer.MAX_VALUE};
    private static final String PLAIN = "act 0 1 1;";
    private static final String[] WORDS = {"act", "front", "set", "sad", "loud", "train", "feud"};
    private static final Check c = new Check();

    public static void main(String[] args) {
        calls512();
        newObject();
        typeLengths();
        typeBytes();
        typeFull();
        textOf400();
        clear();
        nineActs();
        ranges();
        zeroWithFront();
        trains();
        anyBlanks();
        neededBlanks();
        items();
        perhaps();
        feudsTold();
        words();
        bytesThatBeginNone();
        numbers();
        faultOfTheFirstToken();
        endsTooEarly();
        actsAnswer();
        faultKeepsTheText();
        readAnew();
        readAnewForgets();
        act();
        feud();
        tunes();
        family();
        c.end();
    }

    private static void faultIs(String text, int fault) {
        c.due("acts() of '" + text + "'", Check.fault(text), -10 - fault);
    }

    private static void itemsAre(String text, int items) {
        c.due("acts() of '" + text + "'", Check.fault(text), items);
    }

    private static void calls512() {
        c.says("An object is used for at most 512 calls after it has been made");
        NineActs x = Check.told("act 0 5 20;");
        for (int k = 4; k < 512; k++) {
            x.rate(4, 0);
        }
        c.due("the 512th call, trace()", x.trace(), 508 * 110001L);
        for (int k = 0; k < 100000; k++) {
            x.rate(4, 0);
            x.type(k, 8);
            x.mark(0, 0, 0);
            x.place(0);
            x.drawn();
        }
        c.due("later calls end, too", x.count(1), 1);
    }

    private static void newObject() {
        c.says("As told; no ACTS; THE LOT is 1.");
        NineActs x = new NineActs();
        c.due("no acts", x.count(0), 0);
        c.due("none on the bill", x.count(1), 0);
        c.due("no break", x.count(2), 0);
        c.due("no marks", x.count(3), 0);
        c.due("no text", x.count(4), 0);
        c.due("no trace", x.trace(), 0);
        c.due("no image 0", x.back(0), NineActs.STATE);
        c.due("no image 1", x.back(1), NineActs.STATE);
        c.due("the lot", x.lot(2), 1);
        c.due("another object has its own lot", new NineActs().lot(2), 1);
    }

    private static void typeLengths() {
        c.says("The lowest n (1 .. 8) bytes of v");
        NineActs x = new NineActs();
        c.due("type(0, 0)", x.type(0, 0), BAD);
        c.due("type(0, -1)", x.type(0, -1), BAD);
        c.due("type(0, 9)", x.type(0, 9), BAD);
        for (int far : FAR) {
            c.due("type(0, " + far + ")", x.type(0, far), BAD);
            c.due("type(0, 8 beyond " + far + ")", x.type(0, far & ~255 | 8), BAD);
        }
        c.due("nothing came", x.count(4), 0);
        int sum = 0;
        for (int n = 1; n <= 8; n++) {
            sum += n;
            c.due("type(-1, " + n + ")", x.type(-1, n), sum);
        }
    }

    private static void typeBytes() {
        c.says("the highest of them first, come to THE TEXT: how many it has");
        for (int n = 1; n <= 8; n++) {
            NineActs x = new NineActs();
            int all = 0;
            String text = "act 4 13 27;";
            for (int from = 0; from < text.length(); from += n) {
                String part = text.substring(from, Math.min(text.length(), from + n));
                // What is above the lowest bytes is of no account.
                long above = part.length() == 8 ? 0 : -1L << 8 * part.length();
                all += part.length();
                c.due("type by " + n, x.type(above | Check.bytes(part), part.length()), all);
            }
            c.due("acts by " + n, x.acts(), 1);
            c.due("kind by " + n, x.act(0, 0), 4);
            c.due("long by " + n, x.act(0, 1), 13);
            c.due("strength by " + n, x.act(0, 2), 27);
        }
        // The highest byte has the sign of v: 0x80 and 0xff are bytes like others.
        faultIs("\u0080ct 0 1 1;", 0);
        faultIs("\u00ffct 0 1 1;", 0);
        faultIs("act 0 1 \u00b1;", 8);
    }

    private static NineActs typed(int bytes) {
        NineActs x = new NineActs();
        Check.write(x, " ".repeat(bytes));
        return x;
    }

    private static void typeFull() {
        c.says("BAD; FULL.");
        for (int n = 1; n <= 8; n++) {
            NineActs x = typed(400 - n);
            c.due("type " + n + " where there is room for it", x.type(0, n), 400);
            x = typed(401 - n);
            c.due("type " + n + " where one is too many", x.type(0, n), NineActs.FULL);
            c.due("no byte of it came", x.count(4), 401 - n);
            x = typed(400);
            c.due("type " + n + " at 400", x.type(0, n), NineActs.FULL);
            c.due("400 stay", x.count(4), 400);
        }
        NineActs x = typed(400);
        c.due("BAD is ahead of FULL: 0", x.type(0, 0), BAD);
        c.due("BAD is ahead of FULL: 9", x.type(0, 9), BAD);
        c.due("what was refused is not read", x.acts(), 0);
    }

    private static void textOf400() {
        c.says("They are a text (400 bytes at most)");
        itemsAre(" ".repeat(400), 0);
        itemsAre(PLAIN + " ".repeat(390), 1);
        itemsAre(" ".repeat(390) + PLAIN, 1);
        faultIs(" ".repeat(391) + "act 0 1 1", 400);
        faultIs(" ".repeat(399) + "?", 399);
        faultIs(" ".repeat(399) + ";", 399);
        faultIs("a".repeat(400), 0);
        faultIs("9".repeat(400), 0);
        faultIs("0".repeat(400), 0);
        faultIs(PLAIN + "act 0 1 " + "9".repeat(382), 18);
        // As many items as 400 bytes can tell, but for six blanks.
        itemsAre("act0 1 1;".repeat(2) + "feud0 1;".repeat(47) + " ".repeat(6), 49);
    }

    private static void clear() {
        c.says("THE TEXT is empty: how many bytes it had.");
        NineActs x = new NineActs();
        c.due("clear of none", x.clear(), 0);
        x.type(0, 1);
        c.due("clear of one", x.clear(), 1);
        c.due("clear again", x.clear(), 0);
        x = typed(400);
        c.due("clear of 400", x.clear(), 400);
        c.due("there is room again", x.type(0, 8), 8);
        x = Check.told(PLAIN);
        Check.write(x, "act 5 5 5;");
        x.clear();
        c.due("acts stay", x.act(0, 0), 0);
        c.due("no text: no acts", x.acts(), 0);
        c.due("none", x.count(0), 0);
    }

    private static void nineActs() {
        c.says("(9 at most)");
        itemsAre(PLAIN.repeat(8), 8);
        itemsAre(PLAIN.repeat(9), 9);
        faultIs(PLAIN.repeat(10), 90);
        faultIs(PLAIN.repeat(9) + " act", 91);
        itemsAre(PLAIN.repeat(9) + "feud 0 8;feud 8 7;", 11);
        faultIs(PLAIN.repeat(9) + "feud 0 9;", 97);
        faultIs(PLAIN.repeat(9) + "feud 0 8;act 0 1 1;", 99);
    }

    /** A NUMBER of an act: those that it may be and that are told, those at fault. */
    private static void range(String head, String tail, int what, int least, int most) {
        for (int v = 0; v <= 260; v++) {
            boolean good = v >= least && v <= most;
            c.due("acts() of '" + head + v + tail + "'", Check.fault(head + v + tail), good ? 1 : -10 - head.length());
            if (good) {
                c.due("what is told by '" + head + v + tail + "'", Check.told(head + v + tail).act(0, what), v);
            }
        }
    }

    private static void ranges() {
        c.says("have a KIND (0 .. 5)");
        range("act ", " 1 1;", 0, 0, 5);
        c.says("are so LONG (1 .. 30 minutes)");
        range("act 0 ", " 1;", 1, 1, 30);
        c.says("have a STRENGTH (0 .. 30)");
        range("act 0 1 ", ";", 2, 0, 30);
        c.says("(SET, STRIKE: 0 .. 9 minutes; 0 with FRONT)");
        range("act 0 1 1 set ", " 0;", 4, 0, 9);
        range("act 0 1 1 set 0 ", ";", 5, 0, 9);
        c.says("a TRAIN (1 .. 250: off by that minute; 0: none)");
        range("act 0 1 1 train ", ";", 7, 1, 250);
    }

    private static void zeroWithFront() {
        c.says("0 with FRONT");
        NineActs x = Check.told("act 0 1 1 set 7 8;act 1 1 1 set 6 5;");
        Check.write(x, "act 0 1 1 set 9 9;act 1 1 1 set 9 9;");
        x.acts();
        Check.write(x, "act 0 1 1 front;act 1 1 1;");
        x.acts();
        c.due("in front", x.act(0, 3), 1);
        c.due("set", x.act(0, 4), 0);
        c.due("strike", x.act(0, 5), 0);
        c.due("on the whole stage", x.act(1, 3), 0);
        c.due("set, not told", x.act(1, 4), 0);
        c.due("strike, not told", x.act(1, 5), 0);
        faultIs("act 0 1 1 front 0 0;", 16);
    }

    private static void trains() {
        c.says("a TRAIN (1 .. 250: off by that minute; 0: none)");
        c.due("off by 1", Check.tuned("act 0 1 1 train 1;").staged(0), NineActs.NONE);
        c.due("off a minute behind 1", Check.tuned("act 0 2 1 train 1;").staged(0), 4);
        String late = "act 0 30 1;act 1 30 1;".repeat(4);
        c.due("off by 250", Check.tuned(late + "act 2 10 1 train 250;", 1, 400).staged(0), NineActs.NONE);
        c.due("off a minute behind 250", Check.tuned(late + "act 2 11 1 train 250;", 1, 400).staged(0), 4);
        c.due("no train", Check.tuned(late + "act 2 30 1;", 1, 400).staged(0), NineActs.NONE);
    }

    private static void anyBlanks() {
        c.says("blanks (32), any number, ahead of, between, behind TOKENS");
        itemsAre("", 0);
        itemsAre(" ", 0);
        String wide = " act  0   1    1     set      2       3        sad         train          4           ; ";
        itemsAre(wide, 1);
        c.due("what is told", Check.told(wide).act(0, 7), 4);
        itemsAre(PLAIN + " ".repeat(300) + PLAIN + " feud  0   1    ;     ", 3);
        itemsAre("act" + " ".repeat(391) + "0 1 1;", 1);
        faultIs(" ".repeat(10) + "front;", 10);
    }

    private static void neededBlanks() {
        c.says("(needed only between two rows of letters, two NUMBERS)");
        itemsAre("act0 1 1;act1 1 1front sad train9;act2 1 1set0 9loud train9;feud0 1;", 4);
        faultIs("act0 1 1frontsad;", 8);
        faultIs("act0 1 1fronttrain9;", 8);
        faultIs("act0 1 1set1 1sadtrain9;", 14);
        faultIs("actact0 1 1;", 0);
        // Two numbers without a blank are one number.
        faultIs("act0 11;", 7);
        faultIs("act01 1;", 3);
        faultIs("act0 1 1set19;", 11);
        faultIs("act0 1 1;act0 1 1;feud01;", 22);
        faultIs("act0 1 1;act0 1 1;feud10;", 22);
        // A blank inside a word or a number parts it.
        faultIs("ac t 0 1 1;", 0);
        faultIs("act 0 1 1 tra in 9;", 10);
        faultIs("act 0 1 1 train 2 5;", 18);
    }

    private static void items() {
        c.says("ITEMS (none, too), each ended by ;");
        itemsAre("", 0);
        itemsAre(PLAIN, 1);
        itemsAre(PLAIN + PLAIN + "feud 0 1;", 3);
        faultIs(";", 0);
        faultIs(PLAIN + ";", 10);
        faultIs(";" + PLAIN, 0);
        faultIs("act 0 1 1", 9);
        faultIs("act 0 1 1 act 0 1 1;", 10);
        faultIs("act 0 1 1 feud 0 1;", 10);
        faultIs(PLAIN + PLAIN + "feud 0 1", 28);
        faultIs(PLAIN + PLAIN + "feud 0 1 act 0 1 1;", 29);
        faultIs(PLAIN + PLAIN + "feud 0 1 feud 0 1;", 29);
    }

    private static void perhaps() {
        c.says("act K L S, then perhaps front or set A B (SET, STRIKE), then perhaps sad or loud,"
                + " then perhaps train M");
        String[] parts = {"front", "set 2 3", "sad", "loud", "train 4"};
        int[] ranks = {0, 0, 1, 1, 2};
        for (int a = 0; a < 5; a++) {
            itemsAre("act 0 1 1 " + parts[a] + ";", 1);
            for (int b = 0; b < 5; b++) {
                String text = "act 0 1 1 " + parts[a] + " " + parts[b];
                int second = 11 + parts[a].length();
                c.due("acts() of '" + text + ";'", Check.fault(text + ";"), ranks[a] < ranks[b] ? 1 : -10 - second);
                c.due("acts() of '" + text + " act'", Check.fault(text + " act"),
                        -10 - (ranks[a] < ranks[b] ? text.length() + 1 : second));
            }
        }
        String[] stages = {"", "front", "set 2 3"};
        String[] tones = {"", "sad", "loud"};
        String[] trains = {"", "train 4"};
        for (int k = 0; k < 18; k++) {
            String text = "act 5 6 7 " + stages[k % 3] + " " + tones[k / 3 % 3] + " " + trains[k / 9] + ";";
            NineActs x = Check.told(text);
            int[] due = {5, 6, 7, k % 3 == 1 ? 1 : 0, k % 3 == 2 ? 2 : 0, k % 3 == 2 ? 3 : 0, k / 3 % 3,
                k / 9 * 4, 0};
            for (int what = 0; what < 9; what++) {
                c.due("act(0, " + what + ") of '" + text + "'", x.act(0, what), due[what]);
            }
        }
        // No number may be left out, though what comes next could stand there.
        for (String next : new String[] {";", "front;", "set 1 1;", "sad;", "loud;", "train 1;"}) {
            faultIs("act " + next, 4);
            faultIs("act 0 " + next, 6);
            faultIs("act 0 1 " + next, 8);
            faultIs("act 0 1 1 set " + next, 14);
            faultIs("act 0 1 1 set 1 " + next, 16);
            faultIs("act 0 1 1 train " + next, 16);
        }
    }

    private static void feudsTold() {
        c.says("feud A B (two acts that were told, not one and the same)");
        String two = PLAIN + PLAIN;
        itemsAre(two + "feud 0 1;", 3);
        itemsAre(two + "feud 1 0;", 3);
        itemsAre(two + "feud 0 1;feud 0 1;feud 1 0;", 5);
        faultIs(two + "feud 0 0;", 27);
        faultIs(two + "feud 1 1;", 27);
        faultIs(two + "feud 2 0;", 25);
        faultIs(two + "feud 2 2;", 25);
        faultIs(two + "feud 0 2;", 27);
        faultIs(two + "feud 0 250;", 27);
        faultIs("feud 0 1;" + two, 5);
        faultIs(PLAIN + "feud 0 1;" + PLAIN, 17);
        faultIs(PLAIN + "feud 1 0;" + PLAIN, 15);
        faultIs(two + "feud;", 24);
        faultIs(two + "feud 0;", 26);
        faultIs(two + "feud 0 1 0;", 29);
        faultIs(two + "feud act 1;", 25);
        faultIs(two + "feud 0 act;", 27);
    }

    private static void words() {
        c.says("TOKENS are words of letters a .. z (act, front, set, sad, loud, train, feud)");
        for (String word : WORDS) {
            itemsAre(head(word) + word + tail(word), word.equals("feud") ? 3 : 1);
        }
        c.says("a word that is none of these");
        for (String word : WORDS) {
            faultIs("act 0 1 1 " + word + "a;", 10);
            faultIs("act 0 1 1 " + word + "z;", 10);
            faultIs("act 0 1 1 a" + word + ";", 10);
            faultIs(word + word + " 0 1 1;", 0);
            faultIs(word.substring(1) + " 0 1 1;", 0);
            faultIs(word.substring(0, word.length() - 1) + " 0 1 1;", 0);
            faultIs(word.toUpperCase() + " 0 1 1;", 0);
            for (int at = 0; at < word.length(); at++) {
                oneLetterWrong(word, at);
            }
        }
    }

    private static String head(String word) {
        return word.equals("act") ? "" : word.equals("feud") ? PLAIN + PLAIN : "act 0 1 1 ";
    }

    private static String tail(String word) {
        switch (word) {
            case "act": return " 0 1 1;";
            case "feud": return " 0 1;";
            case "set": return " 1 1;";
            case "train": return " 1;";
            default: return ";";
        }
    }

    /** The word stands here where it may, so that it is at fault for its letter alone. */
    private static void oneLetterWrong(String word, int at) {
        String head = head(word) + word.substring(0, at);
        String tail = word.substring(at + 1) + tail(word);
        int fault = head(word).length();
        for (char letter = 'a'; letter <= 'z'; letter++) {
            if (letter != word.charAt(at)) {
                faultIs(head + letter + tail, fault);
            }
        }
        // A capital begins no token: ahead of it a word ends that is none, but where it comes first.
        faultIs(head + Character.toUpperCase(word.charAt(at)) + tail, fault);
    }

    private static void bytesThatBeginNone() {
        c.says("of a byte that begins none");
        for (int k = 0; k < 256; k++) {
            char sign = (char) k;
            boolean letter = sign >= 'a' && sign <= 'z';
            boolean figure = sign >= '0' && sign <= '9';
            c.due("acts() of byte " + k, Check.fault("" + sign), sign == ' ' ? 0 : -10);
            c.due("acts() of byte " + k + " behind an item", Check.fault(PLAIN + sign), sign == ' ' ? 1 : -20);
            // Behind a number a figure makes another number, and ; ends the item too early.
            int due = sign == ' ' || figure ? 1 : sign == ';' ? -20 : -19;
            c.due("acts() of byte " + k + " ahead of ;", Check.fault("act 0 1 1" + sign + ";"), due);
            due = sign == ' ' ? 1 : letter ? -10 : -13;
            c.due("acts() of byte " + k + " behind act", Check.fault("act" + sign + "0 1 1;"), due);
        }
    }

    private static void numbers() {
        c.says("a NUMBER above 250 or with a 0 ahead of others, that TOKEN's");
        itemsAre("act 0 1 1 train 249;", 1);
        itemsAre("act 0 1 1 train 250;", 1);
        String[] wrong = {"251", "252", "260", "300", "999", "1000", "2500", "00", "01", "09", "000", "010", "0250",
            "4294967297", "8589934593", "18446744073709551617", "2147483648", "4294967296"};
        for (String number : wrong) {
            faultIs("act 0 1 1 train " + number + ";", 16);
            faultIs("act " + number + " 1 1;", 4);
            faultIs("act 0 " + number + " 1;", 6);
            faultIs("act 0 1 " + number + ";", 8);
            faultIs("act 0 1 1 set " + number + " 0;", 14);
            faultIs("act 0 1 1 set 0 " + number + ";", 16);
            faultIs(PLAIN + PLAIN + "feud " + number + " 0;", 25);
            faultIs(PLAIN + PLAIN + "feud 0 " + number + ";", 27);
            faultIs("act 0 1 1 " + number, 10);
            faultIs(number, 0);
        }
        itemsAre("act 0 1 0 set 0 0;", 1);
    }

    private static void faultOfTheFirstToken() {
        c.says("the place of the first byte of the first TOKEN that can't stand there");
        faultIs("act 9 99 999 what ???", 4);
        faultIs("act 0 99 999 what ???", 6);
        faultIs("act 0 1 999 what ???", 8);
        faultIs("act 0 1 1 what ???", 10);
        faultIs("act 0 1 1 front ???", 16);
        faultIs("act 0 1 1;  what", 12);
        faultIs("??? act 0 1 1;", 0);
        c.says("(a tenth act, a B that is A, a NUMBER beyond what it may be, too)");
        faultIs(PLAIN.repeat(9) + "  act 9 9 9", 92);
        faultIs(PLAIN.repeat(9) + "acts 0 1 1;", 90);
        faultIs(PLAIN + PLAIN + "feud 1 1 ?", 27);
        faultIs(PLAIN + PLAIN + "feud 1  1 ?", 28);
        faultIs("act 0  31 ?", 7);
    }

    private static void endsTooEarly() {
        c.says("the text's length, if it ends too early");
        String act = "act 1 2 3 set 4 5 sad train 6;";
        int[][] words = {{0, 3}, {10, 13}, {18, 21}, {22, 27}};
        for (int n = 1; n < act.length(); n++) {
            int fault = n;
            for (int[] word : words) {
                // A part of a word is a word that is none of these.
                if (n > word[0] && n < word[1]) {
                    fault = word[0];
                }
            }
            faultIs(act.substring(0, n), fault);
        }
        itemsAre(act, 1);
        String two = PLAIN + PLAIN;
        faultIs(two + "feud", 24);
        faultIs(two + "feud ", 25);
        faultIs(two + "feud 0", 26);
        faultIs(two + "feud 0 ", 27);
        faultIs(two + "feud 0 1", 28);
        faultIs(two + "feud 0 1   ", 31);
        faultIs("act 0 1 1 front", 15);
        faultIs("act 0 1 1 loud", 14);
    }

    private static void actsAnswer() {
        c.says("THE TEXT tells the ACTS, and is empty then: how many ITEMS.");
        NineActs x = Check.told(PLAIN + PLAIN);
        c.due("two", x.count(0), 2);
        c.due("no text", x.count(4), 0);
        c.due("acts() of no text: none", x.acts(), 0);
        c.due("none", x.count(0), 0);
        c.due("no act 0", x.act(0, 0), BAD);
        x = Check.told(PLAIN + PLAIN);
        Check.write(x, "   ");
        c.due("acts() of blanks: none", x.acts(), 0);
        c.due("no text", x.count(4), 0);
        c.due("none", x.count(0), 0);
    }

    private static void faultKeepsTheText() {
        c.says("-10 less FAULT: nothing changes (THE TEXT stays, too)");
        NineActs x = new NineActs();
        Check.write(x, "?");
        c.due("fault 0", x.acts(), -10);
        c.due("it stays", x.count(4), 1);
        c.due("fault 0 again", x.acts(), -10);
        x = new NineActs();
        Check.write(x, "act 3 4 5");
        c.due("too early", x.acts(), -19);
        c.due("no act yet", x.count(0), 0);
        Check.write(x, ";");
        c.due("what is typed comes behind it", x.acts(), 1);
        c.due("as told", x.act(0, 1), 4);
        Check.write(x, PLAIN.repeat(8) + "act 9");
        c.due("fault behind eight acts", x.acts(), -94);
        c.due("one act stays", x.count(0), 1);
        c.due("as told", x.act(0, 1), 4);
        x.clear();
        Check.write(x, "act 5 5 5;");
        c.due("nothing is left of the eight", x.acts(), 1);
        c.due("one", x.count(0), 1);
    }

    private static NineActs rich() {
        NineActs x = Check.billed("act 0 5 10 front sad train 9;act 1 6 11 set 3 4 loud;act 2 1 1;feud 0 1;feud 0 2;",
                "102");
        x.rest(2);
        for (int i = 0; i < 3; i++) {
            x.family(i, 90 + i);
            x.mark(i, 0, 50 + i);
            x.mark(i, 8, 60 + i);
        }
        x.keep(0);
        x.keep(1);
        for (int k = 0; k < 8; k++) {
            x.tune(k, 9);
        }
        x.tune(1, 99);
        x.lot(-77);
        x.rate(4, 0);
        return x;
    }

    private static void readAnew() {
        c.says("(ACTS read anew: THE BILL is empty, no BREAK, FAMILIES 0, no MARKS, IMAGES are gone; TUNES, THE LOT"
                + " stay; THE TRACE goes on, as behind back().)");
        for (String text : new String[] {"", "act 0 5 10;act 1 6 11;act 2 1 1;"}) {
            NineActs x = rich();
            Check.write(x, text);
            c.due("anew", x.acts(), text.isEmpty() ? 0 : 3);
            c.due("bill", x.count(1), 0);
            c.due("on(0)", x.on(0), BAD);
            c.due("break", x.count(2), 0);
            c.due("marks", x.count(3), 0);
            c.due("image 0", x.back(0), NineActs.STATE);
            c.due("image 1", x.back(1), NineActs.STATE);
            for (int k = 0; k < 8; k++) {
                c.due("tune " + k, x.tune(k, k == 1 ? 99 : 9), k == 1 ? 99 : 9);
            }
            c.due("lot", x.lot(1), -77);
            c.due("trace", x.trace(), 110001);
            for (int i = 0; i < 3; i++) {
                c.due("family " + i, x.act(i, 8), text.isEmpty() ? BAD : 0);
                c.due("parted " + i, x.parted(i, 0), NineActs.NO);
            }
            c.due("opener", x.opener(), text.isEmpty() ? NineActs.NONE : 2);
            c.due("trace", x.trace(), 110001);
        }
        NineActs x = rich();
        Check.write(x, "act 0 1 1;act 0 1 1;");
        x.acts();
        x.mark(0, 0, 10);
        x.mark(1, 0, 20);
        c.due("old marks are of no account", x.parted(1, 0), 5);
        c.due("old marks are of no account", x.parted(1, 1), 1);
        c.due("the trace went on", x.rate(0, 0) + x.trace(), 1 + 110002);
    }

    private static void readAnewForgets() {
        c.says("THE TEXT tells the ACTS, and is empty then");
        NineActs x = rich();
        Check.write(x, "act 5 9 9 front loud train 8;act 4 8 8 set 9 9 sad train 7;act 3 3 3 loud;feud 1 2;");
        x.acts();
        x.family(1, 7);
        for (int round = 0; round < 2; round++) {
            Check.write(x, "act 1 2 3;act 1 2 3;act 1 2 3;");
            c.due("plain ones", x.acts(), 3);
            for (int i = 0; i < 3; i++) {
                int[] due = {1, 2, 3, 0, 0, 0, 0, 0, 0};
                for (int what = 0; what < 9; what++) {
                    c.due("act(" + i + ", " + what + ")", x.act(i, what), due[what]);
                }
                c.due("feud(" + i + ", next)", x.feud(i, (i + 1) % 3), 0);
            }
            Check.write(x, "act 1 2 3;");
            c.due("fewer", x.acts(), 1);
            c.due("one", x.count(0), 1);
            c.due("no second", x.act(1, 0), BAD);
        }
    }

    private static void act() {
        c.says("Of an act: 0 KIND, 1 LONG, 2 STRENGTH, 3 whether in FRONT, 4 SET, 5 STRIKE, 6 TONE, 7 TRAIN,"
                + " 8 FAMILY. BAD.");
        c.due("act(0, 0) of none", new NineActs().act(0, 0), BAD);
        NineActs x = Check.told(PLAIN.repeat(8) + "act 5 30 29 set 8 9 loud train 250;");
        x.family(8, 99);
        int[] due = {5, 30, 29, 0, 8, 9, 2, 250, 99};
        for (int what = 0; what < 9; what++) {
            c.due("act(8, " + what + ")", x.act(8, what), due[what]);
            c.due("act(9, " + what + ")", x.act(9, what), BAD);
            c.due("act(-1, " + what + ")", x.act(-1, what), BAD);
        }
        c.due("act(8, 9)", x.act(8, 9), BAD);
        c.due("act(8, -1)", x.act(8, -1), BAD);
        for (int far : FAR) {
            c.due("act(" + far + ", 0)", x.act(far, 0), BAD);
            c.due("act(0, " + far + ")", x.act(0, far), BAD);
        }
        c.due("an act that is not told", Check.told(PLAIN).act(1, 0), BAD);
    }

    private static void feud() {
        c.says("Whether two acts are in FEUD. BAD (one and the same, too).");
        NineActs x = Check.told(PLAIN.repeat(9) + "feud 0 8;feud 8 7;feud 3 8;feud 0 1;");
        for (int i = -1; i <= 9; i++) {
            for (int j = -1; j <= 9; j++) {
                int due = 0;
                for (int pair : new int[] {8, 80, 87, 78, 38, 83, 1, 10}) {
                    if (i * 10 + j == pair && j >= 0 && j < 9) {
                        due = 1;
                    }
                }
                boolean bad = i < 0 || i > 8 || j < 0 || j > 8 || i == j;
                c.due("feud(" + i + ", " + j + ")", x.feud(i, j), bad ? BAD : due);
            }
        }
        for (int far : FAR) {
            c.due("feud(" + far + ", 0)", x.feud(far, 0), BAD);
            c.due("feud(0, " + far + ")", x.feud(0, far), BAD);
            c.due("feud(" + far + ", " + far + ")", x.feud(far, far), BAD);
        }
        c.due("of none", new NineActs().feud(0, 1), BAD);
        c.due("with one that is not told", Check.told(PLAIN).feud(0, 1), BAD);
    }

    private static void tunes() {
        String[] sentences = {"0 MOST GAP (0 .. 9; 2 at first)", "1 CLOSE (10 .. 400; 180)",
            "2 BREAK (0 .. 30 minutes; 10)", "3 CHILL (0 .. 9; 2)", "4 SEATS (0 .. 10; 5)", "5 TIRED (0 .. 9; 1)",
            "6 HEAT at first (0 .. 99; 20)", "7 PEOPLE at first (0 .. 999; 400)"};
        int[][] bounds = {{0, 9, 2}, {10, 400, 180}, {0, 30, 10}, {0, 9, 2}, {0, 10, 5}, {0, 9, 1}, {0, 99, 20},
            {0, 999, 400}};
        for (int k = 0; k < 8; k++) {
            c.says(sentences[k]);
            NineActs x = new NineActs();
            c.due("below", x.tune(k, bounds[k][0] - 1), BAD);
            c.due("above", x.tune(k, bounds[k][1] + 1), BAD);
            for (int far : FAR) {
                boolean good = far >= bounds[k][0] && far <= bounds[k][1];
                c.due("far away " + far, good ? BAD : x.tune(k, far), BAD);
            }
            c.due("as at first, then the least", x.tune(k, bounds[k][0]), bounds[k][2]);
            c.due("the most", x.tune(k, bounds[k][1]), bounds[k][0]);
            c.due("above the most", x.tune(k, bounds[k][1] + 1), BAD);
            c.due("it stays", x.tune(k, bounds[k][0]), bounds[k][1]);
        }
        c.says("A TUNE becomes v: what it was. BAD.");
        NineActs x = new NineActs();
        c.due("tune(-1, 10)", x.tune(-1, 10), BAD);
        c.due("tune(8, 10)", x.tune(8, 10), BAD);
        for (int far : FAR) {
            c.due("tune(" + far + ", 10)", x.tune(far, 10), BAD);
        }
    }

    private static void family() {
        c.says("FAMILIES (0 .. 99 of an act; 0 at first) stay till their act has ended.");
        NineActs x = Check.told(PLAIN.repeat(9));
        for (int i = 0; i < 9; i++) {
            c.due("0 at first", x.family(i, 99), 0);
            c.due("99", x.family(i, 0), 99);
            c.due("100", x.family(i, 100), BAD);
            c.due("-1", x.family(i, -1), BAD);
            c.due("it stays", x.act(i, 8), 0);
        }
        c.says("FAMILY of an act becomes v: what it was. BAD.");
        c.due("family(9, 0)", x.family(9, 0), BAD);
        c.due("family(-1, 0)", x.family(-1, 0), BAD);
        for (int far : FAR) {
            c.due("family(" + far + ", 0)", x.family(far, 0), BAD);
            c.due("family(0, " + far + ")", x.family(0, far), BAD);
        }
        c.due("of none", new NineActs().family(0, 0), BAD);
        x.family(3, 5);
        c.due("of that act alone", x.act(2, 8) + x.act(4, 8), 0);
        c.due("it is not on the bill, and has them", x.act(3, 8), 5);
    }
}
