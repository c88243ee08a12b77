/** Promises 17 to 22 and "3 BEST": a test of its own for each sentence that names a boundary case. */
public final class EdgesOfOtherBillsTest {
    private static final int BAD = NineActs.BAD;
    private static final int STATE = NineActs.STATE;
    private static final int NONE = NineActs.NONE;
    private static final int MOST_GAP = 0;
    private static final int BREAK = 2;
    private static final int SEATS = 4;
    private static final int TIRED = 5;
    private static final int HEAT = 6;
    private static final int PEOPLE = 7;
    private static final int[] FAR = {Integer.MIN_VALUE, -1000000, -256, -9, -2, 256, 1000000, Integer.MAX_VALUE};
    /** Without strength: with no heat at first every order is worth 0. */
    private static final String NINE = "act 0 1 0;act 1 1 0;act 2 1 0;".repeat(3);
    private static final String SIX = "act 0 1 0;act 1 1 0;act 2 1 0;act 3 1 0;act 4 1 0;act 5 1 0;";
    private static final Check c = new Check();

    public static void main(String[] args) {
        bestRefused();
        bestOfOne();
        bestOfSix();
        bestOfSeven();
        bestOfSeveral();
        bestBreaks();
        bestNone();
        bestGoesWithTheTunes();
        bestGoesWithTheBill();
        customOfFew();
        customOfEquals();
        customOfNine();
        when();
        whenOfSeveral();
        illRefused();
        illOfTwo();
        illOfSeven();
        illBreakEarlier();
        illBreakGone();
        illNone();
        illOfSeveral();
        halvesRefused();
        halvesOfOneMore();
        halvesKinds();
        halvesOfSeveral();
        tryoutRefused();
        tryoutOnAnEmptyBill();
        tryoutBreak();
        tryoutIsPlain();
        tryoutOfSeveral();
        tryoutNone();
        tryoutOfTen();
        c.end();
    }

    private static NineActs cold(String text, String order) {
        NineActs x = Check.billed(text, order);
        x.tune(HEAT, 0);
        return x;
    }

    private static void best(String what, NineActs x, int value, int order, int pause, int many) {
        c.due(what + ": value", x.best(0), value);
        c.due(what + ": order", x.best(1), order);
        c.due(what + ": break", x.best(2), pause);
        c.due(what + ": how many", x.best(3), many);
    }

    private static void bestRefused() {
        c.says("BEST: VALUE (what = 0), the order (1), the BREAK (2); NONE; HOW MANY can be staged (3). BAD;"
                + " STATE: THE BILL is empty, or has more than 7.");
        String[] refused = {"", "01234567", "012345678"};
        for (String order : refused) {
            NineActs x = cold(NINE, order);
            best("a bill of '" + order + "'", x, STATE, STATE, STATE, STATE);
            c.due("BAD is ahead of STATE: 4 of '" + order + "'", x.best(4), BAD);
            c.due("BAD is ahead of STATE: -1 of '" + order + "'", x.best(-1), BAD);
        }
        NineActs x = cold(NINE, "0");
        c.due("best(4)", x.best(4), BAD);
        c.due("best(-1)", x.best(-1), BAD);
        for (int far : FAR) {
            c.due("best(" + far + ")", x.best(far), BAD);
        }
        c.due("a new object", new NineActs().best(3), STATE);
    }

    private static void bestOfOne() {
        c.says("all places of the BREAK (0 .. how many less 1)");
        best("one", Check.billed("act 0 5 20;", "0"), 24, 0, 0, 1);
        best("one, the last of nine", cold(NINE, "8"), 0, 8, 0, 1);
        NineActs x = cold("act 0 1 0;act 0 1 0;", "10");
        best("two of a kind", x, 0, 1, 1, 2);
        x = cold("act 0 1 0;act 1 1 0;", "10");
        best("two of two kinds", x, 0, 1, 0, 4);
    }

    private static void bestOfSix() {
        c.says("HOW MANY of all these (each order with each place of the BREAK) can be staged.");
        best("six of six kinds", cold(SIX, "543210"), 0, 12345, 0, 720 * 6);
        // 0 needs a minute: first of all it is 1 above the most gap; else a break just ahead of it,
        // or none of the others, which are on the whole stage and need nothing.
        NineActs x = cold("act 0 1 0 set 1 0;act 1 1 0;act 2 1 0;", "012");
        x.tune(MOST_GAP, 0);
        // At place 1 with the break behind 1, at place 2 with the break behind 2: two orders each.
        best("a break just ahead of 0", x, 0, 102, 1, 4);
        x.tune(BREAK, 0);
        best("a break of no minutes is of no use", x, NONE, NONE, NONE, 0);
    }

    private static void bestOfSeven() {
        c.says("of all orders of the acts on THE BILL (7 at most)");
        NineActs x = cold(NINE, "8765432");
        c.due("the order", x.best(1), 2345678);
        c.due("the break", x.best(2), 0);
        x.place(0);
        c.due("an eighth", x.best(1), STATE);
        best("seven, and none but one order by trains", trains(), 0, 6543210, 0, 1);
    }

    /** Each act must end at its place in the order 6543210. */
    private static NineActs trains() {
        StringBuilder acts = new StringBuilder();
        for (int i = 0; i < 7; i++) {
            acts.append("act ").append(i % 6).append(" 1 0 train ").append(7 - i).append(';');
        }
        return cold(acts.toString(), "0123456");
    }

    private static void bestOfSeveral() {
        c.says("of several the order that is first (figures of ten), then the least BREAK");
        // 012 needs a break behind one; 021 needs none: the order is ahead of the break.
        best("0 and 1 of a kind", cold("act 0 1 0;act 0 1 0;act 1 1 0;", "210"), 0, 12, 1, 10);
        best("1 and 2 of a kind", cold("act 0 1 0;act 1 1 0;act 1 1 0;", "210"), 0, 12, 2, 10);
        // A break behind 1, 2 or 3 covers enough of 18 minutes, no break does not.
        NineActs x = cold("act 0 1 0 set 0 9;act 1 1 0 front;act 2 1 0 front;act 3 1 0 set 9 0;", "0123");
        x.tune(MOST_GAP, 9);
        c.due("order", x.best(1), 123);
        c.due("the least break", x.best(2), 1);
        // The greatest value goes ahead of the first order: 20 at the end, 8 first.
        x = Check.billed("act 0 1 20;act 1 1 8;", "01");
        x.tune(PEOPLE, 0);
        // 8 of 120 is 9, of 5 tenths 4: 12 of heat; 20 of 112 is 22, of 7 tenths 15: 34. The other way round:
        // 24, of 5 tenths 12: 20; 9, of 7 tenths 6: 24.
        best("the greatest value", x, 34, 10, 0, 4);
    }

    private static void bestBreaks() {
        c.says("all places of the BREAK (0 .. how many less 1) that can be staged the greatest VALUE");
        for (int many = 1; many <= 6; many++) {
            NineActs x = cold(SIX, "012345".substring(0, many));
            int orders = new int[] {0, 1, 2, 6, 24, 120, 720}[many];
            c.due("how many of " + many, x.best(3), orders * many);
        }
    }

    private static void bestNone() {
        c.says("BEST: VALUE (what = 0), the order (1), the BREAK (2); NONE; HOW MANY can be staged (3)");
        best("a gap", cold("act 0 1 0 set 3 0;", "0"), NONE, NONE, NONE, 0);
        best("a feud", cold("act 0 1 0;act 1 1 0;feud 0 1;", "01"), NONE, NONE, NONE, 0);
        best("a train", cold("act 0 2 0 train 1;", "0"), NONE, NONE, NONE, 0);
        best("a value of 0 is not none", cold("act 0 2 0;", "0"), 0, 0, 0, 1);
        NineActs x = cold("act 0 11 0;", "0");
        x.tune(1, 10);
        best("close", x, NONE, NONE, NONE, 0);
    }

    private static void bestGoesWithTheTunes() {
        c.says("of all orders of the acts on THE BILL");
        String acts = "act 0 9 20 set 3 2 sad;act 1 8 12 set 2 4 sad;act 2 4 7 front;act 3 9 25 loud;";
        int[] values = {6, 45, 3, 9, 10, 9, 99, 999};
        NineActs x = Check.billed(acts, "0123");
        for (int k = 0; k < 8; k++) {
            x.best(0);
            x.tune(k, values[k]);
            NineActs y = Check.billed(acts, "0123");
            for (int n = 0; n <= k; n++) {
                y.tune(n, values[n]);
            }
            x.rest(k % 4);
            x.lot(k);
            x.family(0, k);
            x.mark(0, 0, k);
            best("by tune " + k, x, y.best(0), y.best(1), y.best(2), y.best(3));
        }
        NineActs y = Check.billed(acts, "0123");
        Check.write(y, "act 5 30 30 front;act 9");
        int before = Check.billed(acts, "0123").best(0);
        y.best(0);
        c.due("a fault", y.acts(), -10 - 22);
        c.due("as it was", y.best(0), before);
        y.tune(0, 2);
        c.due("as it was, found anew", y.best(0), before);
    }

    private static void bestGoesWithTheBill() {
        c.says("of all orders of the acts on THE BILL (7 at most) and all places of the BREAK");
        NineActs x = cold(NINE, "01");
        best("two", x, 0, 1, 0, 4);
        x.place(5);
        c.due("a third comes", x.best(1), 15);
        x.keep(0);
        x.empty();
        c.due("empty", x.best(1), STATE);
        x.place(7);
        best("another", x, 0, 7, 0, 1);
        x.back(0);
        c.due("back", x.best(1), 15);
        c.due("how many", x.best(3), 18);
        Check.write(x, SIX);
        x.acts();
        c.due("acts anew", x.best(1), STATE);
        x.place(3);
        best("one of them", x, 0, 3, 0, 1);
    }

    private static void customOfFew() {
        c.says("CUSTOM. STATE: THE BILL is empty.");
        c.due("a new object", new NineActs().custom(), STATE);
        c.due("none on the bill", Check.told(NINE).custom(), STATE);
        c.says("next to last (with two or more), the BREAK as it is");
        c.due("one", Check.billed("act 0 5 20;", "0").custom(), 24);
        // The strong one first: 12 claps, 20 of heat; 14 of 7 tenths is 9. With a break 8 ices, 13 of 7 tenths.
        for (String order : new String[] {"01", "10"}) {
            NineActs x = Check.billed("act 0 5 20;act 1 5 12;", order);
            c.due("two", x.custom(), 12 + 18);
            x.rest(1);
            c.due("two with a break", x.custom(), 12 + 18 + 8);
            c.due("the break stays", x.count(2), 1);
        }
        // Three: 8, 20, 12: 4 claps, 12 of heat; 22 of 7 tenths is 15; 15 of heat: 13.
        NineActs x = Check.billed("act 0 5 20;act 1 5 12;act 2 5 8;", "012");
        c.due("three", x.custom(), 4 + 15 + 26);
        // With a break behind two: 396 left at 4 claps less 16; 384 times 15 by 1000 is 5; 7 of heat: 12.
        x.rest(2);
        c.due("three with a break", x.custom(), 4 + 15 + 24 + 5);
    }

    private static void customOfEquals() {
        c.says("the least first (of several the least number), but the strongest (of several the greatest number)");
        // 0 1 3 2: 18 claps, 56; less 10: 17, 51; 18, 57; 18 twice.
        for (String order : new String[] {"0123", "3210", "1302"}) {
            NineActs x = Check.billed("act 0 1 12 sad;act 0 1 12 sad;act 0 1 12 loud;act 0 1 12;", order);
            x.tune(HEAT, 50);
            x.tune(SEATS, 10);
            c.due("four equals of " + order, x.custom(), 18 + 17 + 18 + 36);
        }
    }

    private static void customOfNine() {
        c.says("CUSTOM: VALUE of these acts by STRENGTH");
        // In the cold each claps as it is strong: the last is the one next to the strongest.
        String acts = "act 0 1 5;act 1 1 1;act 2 1 9;act 3 1 3;act 4 1 7;act 5 1 2;act 0 1 8;act 1 1 6;act 2 1 4;";
        NineActs x = cold(acts, "012345678");
        x.tune(SEATS, 0);
        x.tune(TIRED, 0);
        // By 1 2 3 4 5 6 7 9 8: none of the first, a half of the second.
        c.due("nine", x.custom(), 0 + 1 + 3 + 4 + 5 + 6 + 7 + 9 + 16);
        x.tune(TIRED, 9);
        c.due("nine, tired: 7, 9, 8 less 9, 18, 27", x.custom(), 0 + 1 + 3 + 4 + 5 + 6);
        x.empty();
        for (int i = 8; i > 3; i--) {
            x.place(i);
        }
        c.due("five of them: 2 4 6 8 7", x.custom(), 0 + 2 + 6 + 8 + 14);
    }

    private static void when() {
        c.says("WHEN; NONE. STATE: THE BILL is empty.");
        c.due("a new object", new NineActs().when(), STATE);
        c.due("none on the bill", Check.told(NINE).when(), STATE);
        c.due("one", Check.billed("act 0 5 20;", "0").when(), 0);
        c.due("one that can't be staged", Check.billed("act 0 5 20 set 3 0;", "0").when(), NONE);
        c.due("a feud", Check.billed("act 0 5 20;act 1 1 1;feud 0 1;", "01").when(), NONE);
        c.due("two of a kind", Check.billed("act 0 5 20;act 0 5 20;", "01").when(), 1);
        c.due("three of a kind", Check.billed("act 0 5 20;act 0 5 20;act 0 5 20;", "012").when(), NONE);
        c.due("the last place of nine", cold(NINE.substring(0, 80) + "act 1 1 0;", "012345678").when(), 8);
    }

    private static void whenOfSeveral() {
        c.says("the BREAK (0 .. how many less 1) by which THE BILL as it is can be staged with the greatest VALUE,"
                + " of several the least; NONE");
        c.due("equals", cold(NINE, "012345678").when(), 0);
        NineActs x = cold("act 0 1 0 set 0 9;act 1 1 0 front;act 2 1 0 set 9 0;", "012");
        x.tune(MOST_GAP, 9);
        c.due("equals, but not without a break", x.when(), 1);
        // No ices: none 12 + 16 + 48, behind one 12 + 15 + 44, behind two 12 + 16 + 44.
        x = Check.billed("act 0 5 20;act 1 5 20;act 2 5 20;", "012");
        x.tune(PEOPLE, 0);
        c.due("the greatest first", x.when(), 0);
        x.rest(2);
        c.due("whatever the break is", x.when(), 0);
        // 30 at 99: 29 claps, 100 of heat. Ices are 99 then, and 2 at most are lost by half of the heat.
        x = Check.billed("act 0 5 30;act 1 5 1;act 2 5 1;", "012");
        x.tune(HEAT, 99);
        x.tune(PEOPLE, 999);
        c.due("the greatest in the middle", x.when(), 1);
    }

    private static void illRefused() {
        c.says("ILL: how many are at another place (what = 0), the order (1), its VALUE (2); NONE."
                + " BAD (not on THE BILL, too); STATE: THE BILL has more than 7, or no other act.");
        c.due("a new object", new NineActs().ill(0, 0), BAD);
        c.due("none on the bill", Check.told(NINE).ill(0, 0), BAD);
        for (String order : new String[] {"0", "01234567", "012345678"}) {
            NineActs x = cold(NINE, order);
            for (int what = 0; what < 3; what++) {
                c.due("ill(0, " + what + ") of " + order, x.ill(0, what), STATE);
            }
            c.due("BAD is ahead of STATE: 3", x.ill(0, 3), BAD);
            c.due("BAD is ahead of STATE: -1", x.ill(0, -1), BAD);
            c.due("BAD is ahead of STATE: no act", x.ill(9, 0), BAD);
            c.due("BAD is ahead of STATE: act -1", x.ill(-1, 0), BAD);
        }
        c.due("BAD is ahead of STATE: not among eight", cold(NINE, "01234567").ill(8, 0), BAD);
        c.due("BAD is ahead of STATE: not the one", cold(NINE, "0").ill(1, 0), BAD);
        NineActs x = cold(NINE, "012");
        c.due("not on the bill", x.ill(3, 0), BAD);
        for (int far : FAR) {
            c.due("ill(" + far + ", 0)", x.ill(far, 0), BAD);
            c.due("ill(0, " + far + ")", x.ill(0, far), BAD);
        }
    }

    private static void ill(String what, NineActs x, int out, int away, int order, int value) {
        c.due(what + ": how many", x.ill(out, 0), away);
        c.due(what + ": order", x.ill(out, 1), order);
        c.due(what + ": value", x.ill(out, 2), value);
    }

    private static void illOfTwo() {
        c.says("ILL: an act of THE BILL is out");
        for (int b = 0; b < 2; b++) {
            NineActs x = Check.billed("act 0 5 20;act 1 5 12;", "01");
            x.rest(b);
            ill("the first of two, break " + b, x, 0, 0, 1, 14);
            ill("the second of two, break " + b, x, 1, 0, 0, 24);
            c.due("both are on the bill yet", x.count(1), 2);
            c.due("the break stays", x.count(2), b);
        }
    }

    private static void illOfSeven() {
        c.says("of all orders of the others that can be staged (7 acts of THE BILL at most;");
        NineActs x = cold(NINE, "8765432");
        ill("the first", x, 8, 0, 765432, 0);
        ill("the last", x, 2, 0, 876543, 0);
        ill("in the middle: 6 5 4, kinds 0 2 1", x, 7, 0, 865432, 0);
        x.place(0);
        c.due("of eight", x.ill(8, 0), STATE);
        x = trains();
        // 6 5 4 must be first; then 2 may wait for one other, 1 and 0 for all.
        ill("by trains all must change", x, 3, 6, 654021, 0);
    }

    private static void illBreakEarlier() {
        c.says("the BREAK one earlier, if that act was ahead of it");
        NineActs x = cold("act 0 5 0;act 1 5 0;act 0 5 0;act 1 5 0;", "0123");
        x.rest(2);
        ill("just ahead of it: 0 | 2 3", x, 1, 0, 23, 0);
        ill("just behind it: 0 1 | 3", x, 2, 0, 13, 0);
        ill("first of all: 1 | 2 3", x, 0, 0, 123, 0);
        ill("last of all: 0 1 | 2", x, 3, 0, 12, 0);
        x.rest(1);
        // 0 | 2 3 stays; without 0 there is none ahead of it.
        ill("behind it: 0 | 2 3", x, 1, 0, 23, 0);
        ill("the only one ahead of it: 1 2 3", x, 0, 0, 123, 0);
        x.rest(3);
        // 0 1 | 3 of 0 1 2 | 3.
        ill("just ahead of it: 0 1 | 3", x, 2, 0, 13, 0);
        // 0 2 | 3 has two of a kind: 0 3 | 2 has two at another place, and so has 3 2 | 0, 2 0 | 3 is as bad.
        ill("ahead of it: 0 3 | 2", x, 1, 2, 32, 0);
    }

    private static void illBreakGone() {
        c.says("none, if no act is behind it then");
        NineActs x = cold("act 0 5 0;act 0 5 0;act 1 5 0;", "012");
        x.rest(2);
        ill("the last one is out, and 0 and 1 are of a kind", x, 2, NONE, NONE, NONE);
        x = cold("act 0 5 0;act 1 5 0;act 1 5 0;", "012");
        x.rest(1);
        ill("the first one is out, and 1 and 2 are of a kind", x, 0, NONE, NONE, NONE);
        // No break: no ices, no half. 12, 16 twice.
        x = Check.billed("act 0 5 20;act 1 5 20;act 2 5 20;", "012");
        x.rest(2);
        c.due("no ices", x.ill(2, 2), 12 + 32);
        // A break behind the first: 8 ices, 10 of heat: 22 of 7 tenths is 15.
        c.due("ices", x.ill(0, 2), 12 + 30 + 8);
        c.due("ices", x.ill(1, 2), 12 + 30 + 8);
        x.rest(1);
        c.due("ices behind 0", x.ill(1, 2), 12 + 30 + 8);
        c.due("none is ahead", x.ill(0, 2), 12 + 32);
    }

    private static void illNone() {
        c.says("its VALUE (2); NONE.");
        ill("a feud", cold("act 0 5 0;act 1 5 0;act 2 5 0;feud 0 2;", "012"), 1, NONE, NONE, NONE);
        ill("a gap", cold("act 0 5 0;act 1 5 0 set 3 0;", "01"), 0, NONE, NONE, NONE);
        ill("the gap goes with its act", cold("act 0 5 0;act 1 5 0 set 3 0;", "01"), 1, 0, 0, 0);
    }

    private static void illOfSeveral() {
        c.says("that by which the fewest are at another place than if the row just closed up; of several the greatest"
                + " VALUE, then the first order; NONE");
        // The row as it is goes ahead of any that is worth more.
        NineActs x = Check.billed("act 0 5 30;act 1 5 1;act 2 5 0;", "012");
        x.tune(PEOPLE, 0);
        ill("none at another place", x, 1, 0, 2, 18);
        // Without 1 the 0 and 2, of a kind, stand side by side: 0 3 2 has two at another place, 2 3 0 three.
        x = cold("act 0 5 9;act 1 5 0;act 0 5 0;act 2 5 0;", "0123");
        x.tune(SEATS, 10);
        ill("2 3 0 would be worth 18", x, 1, 2, 32, 9);
        // 0 3 2 4, 0 4 3 2 and 4 2 3 0 have two at another place, of 0 2 3 4; in the cold the last counts.
        int[][] cases = {{5, 5, 5, 324, 25}, {5, 6, 5, 432, 27}, {6, 5, 5, 4230, 27}, {5, 5, 6, 324, 27},
            {6, 6, 5, 432, 28}};
        for (int[] one : cases) {
            x = cold("act 0 5 " + one[0] + ";act 1 5 0;act 0 5 " + one[1] + ";act 2 5 5;act 3 5 " + one[2] + ";",
                    "01234");
            x.tune(SEATS, 10);
            ill(one[0] + ", " + one[1] + ", " + one[2], x, 1, 2, one[3], one[4]);
        }
    }

    private static void halvesRefused() {
        c.says("HALVES: the hall (what = 0), how far apart (1); NONE. BAD; STATE: THE BILL has fewer than 2.");
        for (String order : new String[] {"", "8"}) {
            NineActs x = cold(NINE, order);
            c.due("halves(0) of '" + order + "'", x.halves(0), STATE);
            c.due("halves(1) of '" + order + "'", x.halves(1), STATE);
            c.due("BAD is ahead of STATE", x.halves(2), BAD);
            c.due("BAD is ahead of STATE", x.halves(-1), BAD);
        }
        NineActs x = cold(NINE, "80");
        c.due("two", x.halves(0), 1);
        c.due("halves(2)", x.halves(2), BAD);
        c.due("halves(-1)", x.halves(-1), BAD);
        for (int far : FAR) {
            c.due("halves(" + far + ")", x.halves(far), BAD);
        }
        c.due("a new object", new NineActs().halves(0), STATE);
    }

    private static void halves(String what, NineActs x, int hall, int apart) {
        c.due(what + ": hall", x.halves(0), hall);
        c.due(what + ": apart", x.halves(1), apart);
    }

    private static String strong(int... strengths) {
        StringBuilder acts = new StringBuilder();
        for (int k = 0; k < strengths.length; k++) {
            acts.append("act ").append(k % 6).append(" 1 ").append(strengths[k]).append(';');
        }
        return acts.toString();
    }

    private static void halvesOfOneMore() {
        c.says("in two halls, of which the one has as many as the other or one more");
        halves("two", Check.tuned(strong(30, 0)), 1, 30);
        halves("two, the other way round", Check.tuned(strong(0, 30)), 1, 30);
        halves("three, the least act alone", Check.tuned(strong(30, 1, 1)), 1, 28);
        halves("three, the least act with one", Check.tuned(strong(1, 1, 30)), 3, 28);
        halves("three, the least act with the last", Check.tuned(strong(1, 30, 1)), 5, 28);
        halves("four, not one and three", Check.tuned(strong(30, 1, 1, 1)), 3, 29);
        halves("four, not three and one", Check.tuned(strong(1, 1, 1, 30)), 3, 29);
        halves("five, two of them", Check.tuned(strong(30, 30, 20, 20, 20)), 3, 0);
        halves("five, three of them", Check.tuned(strong(20, 20, 20, 30, 30)), 7, 0);
        halves("five, not one and four", Check.tuned(strong(30, 9, 7, 7, 7)), 5, 14);
    }

    private static void halvesKinds() {
        c.says("no two of a KIND in one hall");
        halves("two of a kind", Check.tuned("act 0 1 5;act 0 1 9;"), 1, 4);
        halves("three of a kind", Check.tuned("act 0 1 5;act 0 1 9;act 0 1 5;"), NONE, NONE);
        // By strength 0 with 1 would be even, but two are of a kind.
        halves("four, 0 and 1 of a kind", Check.tuned("act 0 1 5;act 0 1 5;act 1 1 9;act 2 1 1;"), 5, 8);
        halves("four, 2 and 3 of a kind", Check.tuned("act 1 1 6;act 2 1 5;act 0 1 9;act 0 1 1;"), 9, 7);
        // 0 1 2 would be the least bits, but 0 and 2 are of a kind.
        halves("six, 0 and 2 of a kind",
                Check.tuned("act 0 1 5;act 1 1 5;act 0 1 5;act 2 1 5;act 3 1 5;act 4 1 5;"), 11, 0);
        halves("the highest kind", Check.tuned("act 5 1 5;act 5 1 5;act 5 1 9;"), NONE, NONE);
        halves("the acts that are not on the bill are of no account",
                Check.billed("act 0 1 5;act 0 1 5;act 0 1 9;", "21"), 2, 4);
    }

    private static void halvesOfSeveral() {
        c.says("the hall of the least act of THE BILL, as bits, of several the least; NONE");
        halves("two equals", Check.tuned(strong(5, 5)), 1, 0);
        halves("four equals", Check.tuned(strong(5, 5, 5, 5)), 3, 0);
        halves("three equals", Check.tuned(strong(5, 5, 5)), 1, 5);
        String nine = strong(5, 5, 5, 5, 5, 5, 5, 5, 5);
        halves("2, 5 and 8", Check.billed(nine, "852"), 4, 5);
        halves("7 and 8", Check.billed(nine, "87"), 128, 0);
        halves("0 and 8", Check.billed(nine, "80"), 1, 0);
        halves("nine", Check.billed(nine, "876543210"), 15, 5);
        // 1, 4, 6 and 8: 1 with 8 is even.
        halves("the highest bit", Check.billed(strong(0, 9, 0, 0, 6, 0, 4, 0, 1), "1468"), 2 + 256, 0);
    }

    private static void tryoutRefused() {
        c.says("TRYOUT: the place (what = 0), VALUE (1); NONE. BAD.");
        NineActs x = new NineActs();
        int[][] bad = {{-1, 1, 0, 0}, {6, 1, 0, 0}, {0, 0, 0, 0}, {0, 31, 0, 0}, {0, -1, 0, 0}, {0, 1, -1, 0},
            {0, 1, 31, 0}, {0, 1, 0, -1}, {0, 1, 0, 2}};
        for (int[] one : bad) {
            c.due("tryout(" + one[0] + ", " + one[1] + ", " + one[2] + ", " + one[3] + ")",
                    x.tryout(one[0], one[1], one[2], one[3]), BAD);
        }
        for (int far : FAR) {
            c.due("kind " + far, x.tryout(far, 1, 0, 0), BAD);
            c.due("minutes " + far, x.tryout(0, far, 0, 0), BAD);
            c.due("strength " + far, x.tryout(0, 1, far, 0), BAD);
            c.due("what " + far, x.tryout(0, 1, 0, far), BAD);
        }
        int[][] good = {{0, 1, 0, 0}, {5, 1, 0, 0}, {0, 30, 0, 0}, {0, 1, 30, 0}, {0, 1, 0, 1}};
        for (int[] one : good) {
            c.due("tryout(" + one[0] + ", " + one[1] + ", " + one[2] + ", " + one[3] + ")",
                    x.tryout(one[0], one[1], one[2], one[3]), 0);
        }
    }

    private static void tryoutOnAnEmptyBill() {
        c.says("the place (0 .. ) among those of THE BILL by which it can be staged with the greatest VALUE");
        NineActs x = new NineActs();
        c.due("place 0", x.tryout(0, 5, 20, 0), 0);
        c.due("12 claps twice", x.tryout(0, 5, 20, 1), 24);
        x.tune(1, 10);
        c.due("at close", x.tryout(0, 10, 20, 1), 24);
        c.due("a minute behind close", x.tryout(0, 11, 20, 1), NONE);
        c.due("there is no act", x.count(0) + x.count(1), 0);
        x = cold("act 0 5 10;act 1 5 10;", "01");
        x.tune(SEATS, 10);
        // In the cold each claps as it is strong, the last twice: last of all, if it is stronger.
        c.due("stronger: last", x.tryout(2, 5, 11, 0), 2);
        c.due("stronger: value", x.tryout(2, 5, 11, 1), 10 + 10 + 22);
        c.due("weaker: not last", x.tryout(2, 5, 9, 0), 0);
        c.due("weaker: value", x.tryout(2, 5, 9, 1), 9 + 10 + 20);
        c.due("weaker, of the kind of the first", x.tryout(0, 5, 9, 0), 2);
        c.due("weaker, of the kind of the last", x.tryout(1, 5, 9, 0), 0);
    }

    private static void tryout(String what, NineActs x, int kind, int place, int value) {
        c.due(what + ": place", x.tryout(kind, 5, 30, 0), place);
        c.due(what + ": value", x.tryout(kind, 5, 30, 1), value);
    }

    private static void tryoutBreak() {
        c.says("(the BREAK one later, if it is behind more acts than are ahead of the new one)");
        // At 0 alone, for 1 needs three minutes that the break covers: new, 0 | 1, which are of a kind.
        // 36 claps, 44; 17, 49; half is 24: 14 twice.
        NineActs x = Check.tuned("act 0 5 12;act 0 5 12 set 3 9;", SEATS, 10, PEOPLE, 0);
        x.rest(1);
        tryout("behind one, none is ahead of the new one", x, 1, 0, 36 + 17 + 28);
        // At 1 alone: 0 | new, 1. 14 claps, 22; half is 11: 33, 32; 15 twice.
        x = Check.tuned("act 0 5 12 train 5;act 1 5 12 set 0 9;", SEATS, 10, PEOPLE, 0);
        x.rest(1);
        tryout("behind one, one is ahead of the new one", x, 0, 1, 14 + 33 + 30);
        tryout("the new one is behind the break, so next to 1", x, 1, NONE, NONE);
        // At 2 alone: 0 | 1, new, where 1 must end by 20. 14, 22; 11: 13, 12; 33 twice.
        x = Check.tuned("act 0 5 12;act 1 5 12 train 20;", SEATS, 10, PEOPLE, 0);
        x.rest(1);
        tryout("behind one, two are ahead of the new one", x, 2, 2, 14 + 13 + 66);
        c.due("the break stays", x.count(2), 1);
        // No break is none at any place: as if it were behind 0 acts, it does not go later.
        x = Check.tuned("act 0 5 12;act 0 5 12;", SEATS, 10, PEOPLE, 0);
        // 0, new, 0 alone: 14, 22; 36, 46; 17 twice.
        tryout("no break", x, 1, 1, 14 + 36 + 34);
        tryout("no break, all of a kind", x, 0, NONE, NONE);
    }

    private static void tryoutIsPlain() {
        c.says("TRYOUT of a KIND, LONG, STRENGTH (no SET, no STRIKE, WHOLE stage, plain)");
        NineActs x = cold("act 0 5 10 set 0 3;", "0");
        x.tune(SEATS, 10);
        c.due("on the whole stage: a gap of 3 behind 0", x.tryout(1, 5, 30, 0), 0);
        x.tune(MOST_GAP, 3);
        c.due("a gap of 3 may be", x.tryout(1, 5, 30, 0), 1);
        x = cold("act 0 5 10 set 3 0;", "0");
        c.due("not in front: it covers nothing", x.tryout(1, 30, 30, 0), NONE);
        // Last of all it claps most: 50 behind the first, 45 by loud behind sad, 33 behind that: 13 twice.
        x = Check.tuned("act 0 5 0 sad;act 1 5 0 loud;", SEATS, 10, HEAT, 62, PEOPLE, 0);
        c.due("not loud behind loud", x.tryout(2, 5, 10, 1), 26);
        // 50, and 38 behind that: 13 twice; less 10 it would be 12.
        x = Check.tuned("act 0 5 0 loud;act 1 5 0 sad;", SEATS, 10, HEAT, 62, PEOPLE, 0);
        c.due("not sad behind sad", x.tryout(2, 5, 10, 1), 26);
        x = Check.tuned("act 0 30 1;act 1 30 1;".repeat(4) + "act 2 10 1;", 1, 400);
        c.due("no train, though it ends at 280", x.tryout(3, 30, 30, 0), 9);
    }

    private static void tryoutOfSeveral() {
        c.says("of several the least; NONE");
        NineActs x = cold(NINE, "012345678");
        c.due("equals", x.tryout(5, 1, 0, 0), 0);
        c.due("their value", x.tryout(5, 1, 0, 1), 0);
        c.due("equals but for the first place", x.tryout(0, 1, 0, 0), 2);
        x = cold("act 0 5 0 train 5;act 1 5 0;", "01");
        c.due("equals but for the first", x.tryout(2, 5, 0, 0), 1);
    }

    private static void tryoutNone() {
        c.says("TRYOUT: the place (what = 0), VALUE (1); NONE.");
        NineActs x = cold("act 0 5 0 train 4;", "0");
        c.due("the bill can't be staged", x.tryout(1, 1, 1, 0), NONE);
        c.due("the bill can't be staged", x.tryout(1, 1, 1, 1), NONE);
        x = cold("act 0 5 0;", "0");
        c.due("its kind", x.tryout(0, 1, 1, 0), NONE);
        x = cold("act 0 5 0;act 0 5 0;", "01");
        c.due("it parts two of a kind", x.tryout(1, 5, 0, 0), 1);
        x = cold("act 0 5 0;act 1 5 0;feud 0 1;", "01");
        c.due("it parts a feud", x.tryout(2, 5, 0, 0), 1);
        x = cold("act 0 5 0;act 1 5 0;act 2 5 0;feud 0 1;feud 1 2;", "012");
        c.due("it can't part two feuds", x.tryout(3, 5, 0, 0), NONE);
    }

    private static void tryoutOfTen() {
        c.says("the place (0 .. ) among those of THE BILL");
        NineActs x = cold(NINE, "012345678");
        x.tune(TIRED, 0);
        c.due("the tenth place", x.tryout(5, 1, 12, 0), 9);
        c.due("its value", x.tryout(5, 1, 12, 1), 24);
        x.tune(TIRED, 2);
        // At place 9 it is less by 8 and twice: 8; at place 2 to 5 it is 12.
        c.due("tired", x.tryout(5, 1, 12, 0), 2);
        c.due("tired", x.tryout(5, 1, 12, 1), 12);
        x.rest(8);
        c.due("a break behind eight", x.tryout(5, 1, 12, 0), 2);
        c.due("nine are on the bill", x.count(1), 9);
    }
}
