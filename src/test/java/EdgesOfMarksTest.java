/** Promises 23 to 33 and "4 MARKS": a test of its own for each sentence that names a boundary case. */
public final class EdgesOfMarksTest {
    private static final int BAD = NineActs.BAD;
    private static final int STATE = NineActs.STATE;
    private static final int NONE = NineActs.NONE;
    private static final int NO = NineActs.NO;
    private static final int SEATS = 4;
    private static final int TIRED = 5;
    private static final int HEAT = 6;
    private static final int PEOPLE = 7;
    private static final int[] FAR = {Integer.MIN_VALUE, -1000000, -256, -9, -2, 256, 1000000, Integer.MAX_VALUE};
    private static final int[] LOTS = {Integer.MIN_VALUE, Integer.MIN_VALUE + 1, -65536, -32768, -1, 0, 1, 2, 65535,
        65536, 1103515245, -1103515245, Integer.MAX_VALUE - 1, Integer.MAX_VALUE};
    private static final String NINE = "act 0 1 0;act 1 1 0;act 2 1 0;".repeat(3);
    private static final Check c = new Check();

    public static void main(String[] args) {
        markRanges();
        sixtyMarks();
        partedRefused();
        partedOfItself();
        partedInLeastTerms();
        partedOfManyPlaces();
        partedOfAllMarks();
        partedWide();
        openerFewest();
        openerNone();
        holdRefused();
        holdOfNine();
        holdOfSeveral();
        holdWithoutGaps();
        drawnRefused();
        drawWraps();
        drawnZeroAtLeast();
        drawnHouse();
        drawnGoesOn();
        lot();
        rate();
        rateRefused();
        traceEachOnce();
        keepRefused();
        backRefused();
        imagesKeep();
        imagesKeepNothingElse();
        count();
        c.end();
    }

    private static void markRanges() {
        c.says("an act, a place (0 .. 8), CLAPS (0 .. 99)");
        NineActs x = Check.told(NINE);
        int[][] bad = {{-1, 0, 0}, {9, 0, 0}, {0, -1, 0}, {0, 9, 0}, {0, 0, -1}, {0, 0, 100}};
        for (int[] one : bad) {
            c.due("mark(" + one[0] + ", " + one[1] + ", " + one[2] + ")", x.mark(one[0], one[1], one[2]), BAD);
        }
        for (int far : FAR) {
            c.due("act " + far, x.mark(far, 0, 0), BAD);
            c.due("place " + far, x.mark(0, far, 0), BAD);
            c.due("claps " + far, x.mark(0, 0, far), BAD);
        }
        c.due("none came", x.count(3), 0);
        c.due("the least of all", x.mark(0, 0, 0), 1);
        c.due("the greatest of all", x.mark(8, 8, 99), 2);
        c.due("of no acts", new NineActs().mark(0, 0, 0), BAD);
        c.due("of an act that is not told", Check.told("act 0 1 1;").mark(1, 0, 0), BAD);
    }

    private static void sixtyMarks() {
        c.says("MARKS (60 at most)");
        NineActs x = Check.told(NINE);
        for (int k = 1; k <= 60; k++) {
            c.due("mark " + k, x.mark(4, 4, 50), k);
        }
        c.says("A MARK: how many there are. BAD; FULL.");
        c.due("a mark too many", x.mark(4, 4, 50), NineActs.FULL);
        c.due("a mark too many of another act", x.mark(0, 0, 99), NineActs.FULL);
        c.due("BAD is ahead of FULL: act", x.mark(9, 0, 0), BAD);
        c.due("BAD is ahead of FULL: place", x.mark(0, 9, 0), BAD);
        c.due("BAD is ahead of FULL: claps", x.mark(0, 0, 100), BAD);
        c.due("sixty", x.count(3), 60);
        c.due("what was refused is of no account", x.parted(0, 0), NO);
        c.due("nor for the opener", x.opener(), 0);
        Check.write(x, NINE);
        x.acts();
        c.due("there is room again", x.mark(4, 4, 50), 1);
    }

    private static void parted(String what, NineActs x, int i, int upper, int lower) {
        c.due(what + ": upper", x.parted(i, 0), upper);
        c.due(what + ": lower", x.parted(i, 1), lower);
    }

    private static void partedRefused() {
        c.says("NO: BAD, or it has no MARKS.");
        NineActs x = Check.told(NINE);
        parted("no marks", x, 0, NO, NO);
        x.mark(0, 0, 5);
        parted("one mark", x, 0, 0, 1);
        parted("another has one", x, 1, NO, NO);
        parted("act 9", x, 9, NO, NO);
        parted("act -1", x, -1, NO, NO);
        c.due("parted(0, 2)", x.parted(0, 2), NO);
        c.due("parted(0, -1)", x.parted(0, -1), NO);
        for (int far : FAR) {
            parted("act " + far, x, far, NO, NO);
            c.due("parted(0, " + far + ")", x.parted(0, far), NO);
        }
        parted("a new object", new NineActs(), 0, NO, NO);
    }

    private static void partedOfItself() {
        c.says("over its MARKS the mean of CLAPS less the mean of all MARKS of that place: a fraction");
        NineActs x = Check.told(NINE);
        for (int p = 0; p < 9; p++) {
            x.mark(8, p, 11 * p);
        }
        parted("alone at all places", x, 8, 0, 1);
        x.mark(8, 3, 0);
        x.mark(8, 3, 99);
        parted("alone, with several marks at a place", x, 8, 0, 1);
        x.mark(0, 3, 33);
        // At place 3 the mean is 165 / 4: 132 less 3 times that is 33 / 4, over 11 marks.
        parted("with another at one place", x, 8, 3, 4);
    }

    private static void partedInLeastTerms() {
        c.says("PARTED: upper (what = 0), lower number (1), in least terms.");
        NineActs x = Check.told(NINE);
        x.mark(0, 8, 0);
        x.mark(1, 8, 99);
        parted("below 0", x, 0, -99, 2);
        parted("above 0", x, 1, 99, 2);
        x.mark(2, 8, 0);
        // The mean is 33.
        parted("a whole number below 0", x, 0, -33, 1);
        parted("a whole number above 0", x, 1, 66, 1);
        x.mark(3, 8, 33);
        // The mean is 33 again.
        parted("nothing", x, 3, 0, 1);
        x.mark(4, 8, 35);
        // The mean is 167 / 5; 35 less that is 8 / 5.
        parted("fifths", x, 4, 8, 5);
        parted("fifths below 0", x, 3, -2, 5);
        x.mark(5, 8, 37);
        // The mean is 34.
        parted("asked again", x, 4, 1, 1);
    }

    private static void partedOfManyPlaces() {
        c.says("PARTED, an act from its places");
        // Places with 3, 4, 5, 7, 11, 13 marks; one of each is 97 of act 0, the others are 0.
        int[] many = {3, 4, 5, 7, 11, 13};
        NineActs x = Check.told(NINE);
        for (int p = 0; p < 6; p++) {
            x.mark(0, p, 97);
            for (int k = 1; k < many[p]; k++) {
                x.mark(8, p, 0);
            }
        }
        // The sixth part of 97 times (6 less 65707 / 60060).
        parted("by 60060 and 6", x, 0, 97 * 294653, 360360);
        // 37 marks, each place 97 times (1 less 1 / n) below.
        parted("of the others", x, 8, -97 * 294653, 60060 * 37);
        parted("of none", x, 1, NO, NO);
        // Act 8 and act 1 have marks where act 0 has none.
        x.mark(8, 7, 10);
        x.mark(1, 7, 20);
        parted("where act 0 has none", x, 1, 5, 1);
        parted("act 0 stays as it was", x, 0, 97 * 294653, 360360);
    }

    private static void partedOfAllMarks() {
        c.says("the mean of all MARKS of that place");
        NineActs x = Check.told(NINE);
        for (int k = 0; k < 59; k++) {
            x.mark(0, 0, 99);
        }
        x.mark(1, 0, 0);
        // 99 less 59 times 99 by 60 is 99 by 60.
        parted("59 of 60", x, 0, 33, 20);
        parted("one of 60", x, 1, -59 * 33, 20);
    }

    // Sixty marks by which the fraction is as wide as can be: 97 is in none of the lower numbers.
    private static NineActs wide(int[] own, int[] others) {
        NineActs x = Check.told(NINE);
        for (int p = 0; p < own.length; p++) {
            for (int k = 0; k < own[p]; k++) {
                x.mark(0, p, 97);
            }
            for (int k = 0; k < others[p]; k++) {
                x.mark(8, p, 0);
            }
        }
        c.due("all marks are used", x.count(3), 60);
        return x;
    }

    private static void partedWide() {
        c.says("a fraction");
        // 97 times (3/4 and 20/9 and 6/5 and 12/7 and 30/11 and 42/13 and 30/11), which is by 180180:
        // the second 11 makes it wider than an int ahead of its reduction.
        NineActs x = wide(new int[] {1, 4, 3, 3, 5, 6, 5}, new int[] {3, 5, 2, 4, 6, 7, 6});
        parted("wide on the way", x, 0, 97 * 2625551, 180180 * 27);
        parted("wide on the way, below 0", x, 8, -97 * 2625551, 180180 * 33);
        // 97 times (3/4 and 2/3 and 6/5 and 12/7 and 30/11 and 42/13 and 72/17), by 1021020, the most that
        // sixty marks can make.
        x = wide(new int[] {1, 1, 3, 3, 5, 6, 8}, new int[] {3, 2, 2, 4, 6, 7, 9});
        parted("a great upper number", x, 0, 1438470133, 1021020 * 27);
        parted("a great upper number, below 0", x, 8, -1438470133, 1021020 * 33);
    }

    private static void openerFewest() {
        c.says("OPENER: of all acts that with the fewest MARKS at place 0, of several the least STRENGTH, then the"
                + " first; NONE.");
        NineActs x = Check.told("act 0 1 9;act 0 1 4;act 0 1 30;act 0 1 4;act 0 1 5;");
        c.due("of several the least strength, then the first", x.opener(), 1);
        x.mark(1, 1, 0);
        x.mark(1, 8, 0);
        c.due("marks at other places are of no account", x.opener(), 1);
        x.mark(1, 0, 0);
        c.due("the other of that strength", x.opener(), 3);
        x.mark(3, 0, 0);
        c.due("the next strength", x.opener(), 4);
        x.mark(4, 0, 0);
        c.due("the next strength", x.opener(), 0);
        x.mark(0, 0, 0);
        c.due("the fewest, though it is the strongest", x.opener(), 2);
        x.mark(2, 0, 99);
        c.due("all have one", x.opener(), 1);
        x.mark(1, 0, 0);
        x.mark(1, 0, 0);
        x.mark(3, 0, 0);
        x.mark(4, 0, 0);
        x.mark(0, 0, 0);
        c.due("one, where the others have two and three", x.opener(), 2);
        NineActs y = Check.told("act 0 1 9;act 0 1 0;");
        y.mark(1, 0, 0);
        c.due("one fewer goes ahead of strength", y.opener(), 0);
        NineActs z = Check.told("act 0 1 0;act 0 1 9;");
        z.mark(0, 0, 0);
        c.due("one fewer goes ahead of strength and number", z.opener(), 1);
    }

    private static void openerNone() {
        c.says("OPENER; NONE.");
        c.due("no acts", new NineActs().opener(), NONE);
        NineActs x = Check.told("act 0 1 9;");
        c.due("one that is not on the bill", x.opener(), 0);
        x.acts();
        c.due("no acts again", x.opener(), NONE);
        c.due("of nine equals the first", Check.told(NINE).opener(), 0);
    }

    private static void hold(String what, NineActs x, int most, int order) {
        c.due(what + ": the most", x.hold(0), most);
        c.due(what + ": the order", x.hold(1), order);
    }

    private static void holdRefused() {
        c.says("HOLD: the most (what = 0), the order (1). BAD; STATE: THE BILL is empty.");
        NineActs x = Check.told(NINE);
        hold("an empty bill", x, STATE, STATE);
        c.due("BAD is ahead of STATE", x.hold(2), BAD);
        c.due("BAD is ahead of STATE", x.hold(-1), BAD);
        x.place(8);
        c.due("hold(2)", x.hold(2), BAD);
        c.due("hold(-1)", x.hold(-1), BAD);
        for (int far : FAR) {
            c.due("hold(" + far + ")", x.hold(far), BAD);
        }
        hold("one", x, 0, 8);
        x.empty();
        hold("empty again", x, STATE, STATE);
    }

    private static void holdOfNine() {
        c.says("of all orders of the acts on THE BILL, one behind another");
        NineActs x = Check.tuned("act 0 30 0;".repeat(9));
        for (int i = 0; i < 9; i++) {
            x.family(i, 99);
        }
        hold("as much as can be", x, 99 * 30 * 45, 12345678);
        for (int i = 0; i < 9; i++) {
            x.family(i, 98 - i);
        }
        // 90 at 30, 91 at 60 .. 98 at 270.
        int due = 0;
        for (int k = 0; k < 9; k++) {
            due += (90 + k) * 30 * (k + 1);
        }
        hold("the most families last", x, due, 876543210);
    }

    private static void holdOfSeveral() {
        c.says("of such orders the first (by figures)");
        hold("no families", Check.billed(NINE, "876543210"), 0, 12345678);
        hold("no families, some acts", Check.billed(NINE, "8352"), 0, 2358);
        // As many for each minute: 1 and 2 either way; 0 has none, so it is first.
        NineActs x = Check.billed("act 0 7 1;act 0 10 1;act 0 20 1;", "210");
        x.family(1, 4);
        x.family(2, 8);
        hold("equals by the minute", x, 4 * 17 + 8 * 37, 12);
        x.family(1, 5);
        hold("a little more for each minute", x, 8 * 27 + 5 * 37, 21);
        x.family(0, 99);
        hold("the one with the most is last", x, 8 * 20 + 5 * 30 + 99 * 37, 210);
        // 1 in 30 is less than 1 in 29.
        x = Check.billed("act 0 29 1;act 0 30 1;", "01");
        x.family(0, 1);
        x.family(1, 1);
        hold("the longer one first", x, 30 + 59, 10);
    }

    private static void holdWithoutGaps() {
        c.says("one behind another without GAPS or BREAK, the most FAMILIES times the minute at which the act ends,"
                + " added");
        NineActs x = Check.billed("act 0 5 1 set 9 9;act 0 5 1 set 9 9;feud 0 1;", "01");
        x.rest(1);
        x.family(0, 1);
        x.family(1, 1);
        hold("they need not be staged", x, 5 + 10, 1);
        c.due("the bill stays", x.on(0), 0);
        c.due("the break stays", x.count(2), 1);
    }

    private static int next(int lot) {
        // By longs, and so without a wrap of its own.
        long wide = (lot & 0xffffffffL) * 1103515245L + 12345L;
        return (int) (wide & 0xffffffffL);
    }

    private static int draw(int lot) {
        return (int) ((lot & 0xffffffffL) / 65536 % 5);
    }

    private static void drawnRefused() {
        c.says("A DRAWN night of THE BILL: VALUE. STATE: THE BILL is empty.");
        NineActs x = Check.told(NINE);
        x.lot(5);
        c.due("an empty bill", x.drawn(), STATE);
        c.due("the lot stays", x.lot(5), 5);
        c.due("a new object", new NineActs().drawn(), STATE);
    }

    private static void drawWraps() {
        c.says("THE LOT goes on (times 1103515245 and 12345, wrapped; DRAW: its upper 16 bits, as a number from 0 on,"
                + " left over by 5)");
        NineActs x = Check.tuned("act 0 1 20;", HEAT, 0, SEATS, 10);
        x.lot(0);
        c.due("12345 has none above: 2 less", x.drawn(), 36);
        c.due("0 went on", x.lot(Integer.MIN_VALUE), 12345);
        // 80003039: 32768 is left over by 5 with 3.
        c.due("the upper bit is no sign: 1 more", x.drawn(), 42);
        c.due("it wraps", x.lot(-1), Integer.MIN_VALUE + 12345);
        // 3191464396: 48697 is left over with 2.
        c.due("below 0: none more", x.drawn(), 40);
        c.due("-1 went on", x.lot(1), -1103502900);
        c.due("1: 16838 is left over with 3", x.drawn(), 42);
        c.due("1 went on", x.lot(1), 1103527590);
        boolean[] seen = new boolean[5];
        for (int seed : LOTS) {
            x.lot(seed);
            int lot = seed;
            for (int k = 0; k < 8; k++) {
                lot = next(lot);
                seen[draw(lot)] = true;
                c.due("drawn from " + seed + ", " + k, x.drawn(), 2 * (20 + draw(lot) - 2));
            }
            c.due("the lot from " + seed, x.lot(0), lot);
        }
        for (int k = 0; k < 5; k++) {
            c.due("a draw of " + k + " came", seen[k] ? 1 : 0, 1);
        }
    }

    private static void drawnZeroAtLeast() {
        c.says("at each place CLAPS are more by DRAW less 2, 0 at least (HEAT, PEOPLE go by these): VALUE");
        NineActs x = Check.tuned("act 0 1 1;", HEAT, 0, SEATS, 10);
        for (int seed = -20; seed < 20; seed++) {
            x.lot(seed);
            c.due("1 clap from " + seed, x.drawn(), 2 * Math.max(0, 1 + draw(next(seed)) - 2));
        }
        // CLAPS are 0 at least ahead of the draw, too: however tired, a draw of 4 makes them 2.
        x = Check.tuned(NINE, HEAT, 0, TIRED, 9);
        boolean lucky = false;
        for (int seed = -200; seed < 200; seed += 7) {
            x.lot(seed);
            int lot = seed;
            int due = 0;
            int last = 0;
            for (int p = 0; p < 9; p++) {
                lot = next(lot);
                last = Math.max(0, draw(lot) - 2);
                due += last;
            }
            lucky |= last == 2;
            c.due("nine tired ones from " + seed, x.drawn(), due + last);
            c.due("nine draws from " + seed, x.lot(0), lot);
        }
        c.due("a draw of 4 came at the last place", lucky ? 1 : 0, 1);
    }

    private static void drawnHouse() {
        c.says("(HEAT, PEOPLE go by these)");
        NineActs x = Check.tuned("act 0 1 0;act 1 1 0;", HEAT, 99, SEATS, 10, PEOPLE, 999);
        x.rest(1);
        for (int seed = -20; seed < 20; seed++) {
            x.lot(seed);
            int first = Math.max(0, draw(next(seed)) - 2);
            int people = 999 - 999 * (8 - first) / 100;
            int ices = people * (87 + first) / 1000;
            int second = Math.max(0, draw(next(next(seed))) - 2);
            c.due("two from " + seed, x.drawn(), first + 2 * second + ices);
        }
        c.due("the night without draws", x.worth(0), 920 * 87 / 1000);
    }

    private static void drawnGoesOn() {
        c.says("THE LOT goes on");
        NineActs x = Check.tuned(NINE);
        int lot = 1;
        for (int k = 0; k < 9; k++) {
            lot = next(lot);
        }
        x.drawn();
        c.due("as often as there are places", x.lot(lot), lot);
        x.worth(0);
        x.night(0, 0);
        x.best(0);
        x.custom();
        x.when();
        x.tryout(0, 1, 1, 0);
        c.due("no other night draws", x.lot(1), lot);
    }

    private static void lot() {
        c.says("THE LOT becomes v: what it was.");
        NineActs x = new NineActs();
        int old = 1;
        for (int v : LOTS) {
            c.due("lot(" + v + ")", x.lot(v), old);
            old = v;
        }
        // Answers that look like BAD, STATE, FULL, NONE are numbers here, and none is refused.
        for (int v : new int[] {-1, -2, -3, -9, NO}) {
            c.due("lot(" + v + ")", x.lot(v), old);
            old = v;
        }
        c.due("the last", x.lot(0), old);
    }

    private static void rate() {
        c.says("RATE of an act as if of a KIND");
        NineActs x = Check.told("act 0 30 30 set 9 9;act 1 1 0 set 9 9;act 2 1 0 front;");
        int[][] due = {{30, 35, 60, 70, 12, 12}, {0, 5, 1, 10, -18, -18}, {0, 5, 1, 10, 0, 0}};
        for (int i = 0; i < 3; i++) {
            for (int kind = 0; kind < 6; kind++) {
                c.due("rate(" + kind + ", " + i + ")", x.rate(kind, i), due[i][kind]);
            }
        }
        x.family(1, 99);
        x.tune(SEATS, 0);
        c.due("by families", x.rate(4, 1), 81);
        c.due("closing is without families", x.rate(5, 1), -18);
        c.due("no seats", x.rate(1, 0), 30);
        c.due("no seats", x.rate(3, 0), 60);
        x.tune(SEATS, 10);
        c.due("all seats", x.rate(3, 0), 80);
    }

    private static void rateRefused() {
        c.says("RATE. NO: BAD.");
        NineActs x = Check.told("act 0 1 1;");
        c.due("rate(-1, 0)", x.rate(-1, 0), NO);
        c.due("rate(6, 0)", x.rate(6, 0), NO);
        c.due("rate(0, -1)", x.rate(0, -1), NO);
        c.due("rate(0, 1)", x.rate(0, 1), NO);
        for (int far : FAR) {
            c.due("rate(" + far + ", 0)", x.rate(far, 0), NO);
            c.due("rate(0, " + far + ")", x.rate(0, far), NO);
        }
        for (int kind = 0; kind < 6; kind++) {
            c.due("of no acts", new NineActs().rate(kind, 0), NO);
        }
        c.due("no body was asked", x.trace(), 0);
    }

    private static void traceEachOnce() {
        c.says("(numbers in brackets are added to THE TRACE, 0 at first, as often as rate() asks that body: each once;");
        long[] due = {1, 11, 101, 1011, 110001, 100001};
        for (int kind = 0; kind < 6; kind++) {
            NineActs x = Check.told("act 0 1 1;");
            c.due("0 at first", x.trace(), 0);
            x.rate(kind, 0);
            c.due("once by " + kind, x.trace(), due[kind]);
            c.due("asking changes nothing", x.trace(), due[kind]);
            x.rate(kind, 0);
            c.due("twice by " + kind, x.trace(), 2 * due[kind]);
        }
        c.says("THE TRACE goes on, as behind back().");
        NineActs x = Check.told("act 0 1 1;");
        x.keep(0);
        x.rate(4, 0);
        x.back(0);
        c.due("behind back()", x.trace(), 110001);
        x.acts();
        c.due("behind acts()", x.trace(), 110001);
    }

    private static void keepRefused() {
        c.says("An IMAGE is kept: how many acts THE BILL has. BAD.");
        NineActs x = Check.billed(NINE, "012345678");
        c.due("keep(-1)", x.keep(-1), BAD);
        c.due("keep(2)", x.keep(2), BAD);
        for (int far : FAR) {
            c.due("keep(" + far + ")", x.keep(far), BAD);
        }
        c.due("none was kept", x.back(0), STATE);
        c.due("keep(0)", x.keep(0), 9);
        c.due("the other was not", x.back(1), STATE);
        c.due("keep(1)", x.keep(1), 9);
        c.due("an empty bill of a new object", new NineActs().keep(1), 0);
    }

    private static void backRefused() {
        c.says("All of that becomes as an IMAGE has it: how many acts THE BILL has. BAD; STATE: none was kept.");
        NineActs x = Check.billed(NINE, "01");
        c.due("back(-1)", x.back(-1), BAD);
        c.due("back(2)", x.back(2), BAD);
        for (int far : FAR) {
            c.due("back(" + far + ")", x.back(far), BAD);
        }
        c.due("back(0)", x.back(0), STATE);
        c.due("back(1)", x.back(1), STATE);
        c.due("the bill stays", x.count(1), 2);
        x.keep(1);
        c.due("back(0)", x.back(0), STATE);
        c.due("back(1)", x.back(1), 2);
        c.due("back(1) again", x.back(1), 2);
        x.acts();
        c.due("acts read anew: none is kept", x.back(1), STATE);
    }

    private static void imagesKeep() {
        c.says("IMAGES 0, 1 keep THE BILL, the BREAK, THE LOT; nothing else.");
        NineActs x = Check.billed(NINE, "876543210");
        x.rest(8);
        x.lot(Integer.MIN_VALUE);
        c.due("nine are kept", x.keep(0), 9);
        x.empty();
        x.lot(7);
        c.due("none are kept", x.keep(1), 0);
        for (int round = 0; round < 2; round++) {
            for (int i = 0; i < 9; i++) {
                x.place(i);
            }
            c.due("another row", x.on(0), 0);
            c.due("nine", x.back(0), 9);
            for (int p = 0; p < 9; p++) {
                c.due("on(" + p + ")", x.on(p), 8 - p);
            }
            c.due("the break", x.count(2), 8);
            c.due("the lot", x.lot(3), Integer.MIN_VALUE);
            c.due("none", x.back(1), 0);
            c.due("on(0)", x.on(0), BAD);
            c.due("no break", x.count(2), 0);
            c.due("the lot", x.lot(3), 7);
        }
        x.place(4);
        c.due("kept anew", x.keep(1), 1);
        x.back(0);
        c.due("the one", x.back(1), 1);
        c.due("on(0)", x.on(0), 4);
        c.due("what came behind keep is gone", x.place(5), 2);
        c.due("the one again", x.back(1), 1);
        c.due("on(1)", x.on(1), BAD);
        x.drawn();
        x.back(1);
        c.due("the lot is as it was ahead of the draw", x.lot(0), 3);
    }

    private static void imagesKeepNothingElse() {
        c.says("nothing else");
        NineActs x = Check.billed(NINE, "01");
        Check.write(x, "ab");
        x.keep(0);
        x.family(0, 9);
        x.tune(SEATS, 9);
        x.mark(0, 0, 9);
        x.rate(0, 0);
        Check.write(x, "c");
        x.keep(1);
        x.back(0);
        c.due("family", x.act(0, 8), 9);
        c.due("tune", x.tune(SEATS, 9), 9);
        c.due("marks", x.count(3), 1);
        c.due("trace", x.trace(), 1);
        c.due("text", x.count(4), 3);
        c.due("the other image", x.back(1), 2);
    }

    private static void count() {
        c.says("0 ACTS, 1 those on THE BILL, 2 the BREAK, 3 MARKS, 4 bytes of THE TEXT. BAD.");
        NineActs x = new NineActs();
        for (int what = 0; what < 5; what++) {
            c.due("count(" + what + ") of a new object", x.count(what), 0);
        }
        c.due("count(-1)", x.count(-1), BAD);
        c.due("count(5)", x.count(5), BAD);
        for (int far : FAR) {
            c.due("count(" + far + ")", x.count(far), BAD);
        }
        x = Check.billed(NINE, "012345678");
        x.rest(8);
        for (int k = 0; k < 60; k++) {
            x.mark(0, 0, 0);
        }
        Check.write(x, " ".repeat(400));
        int[] due = {9, 9, 8, 60, 400};
        for (int what = 0; what < 5; what++) {
            c.due("count(" + what + ") of all that can be", x.count(what), due[what]);
        }
    }
}
