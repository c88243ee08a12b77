/** Promises 9 to 16 and "2 THE BILL": a test of its own for each sentence that names a boundary case. */
public final class EdgesOfBillTest {
    private static final int BAD = NineActs.BAD;
    private static final int STATE = NineActs.STATE;
    private static final int NONE = NineActs.NONE;
    private static final int MOST_GAP = 0;
    private static final int CLOSE = 1;
    private static final int BREAK = 2;
    private static final int CHILL = 3;
    private static final int SEATS = 4;
    private static final int TIRED = 5;
    private static final int HEAT = 6;
    private static final int PEOPLE = 7;
    private static final int[] FAR = {Integer.MIN_VALUE, -1000000, -256, -9, -2, 256, 1000000, Integer.MAX_VALUE};
    private static final String NINE = "act 0 1 1;act 1 1 1;act 2 1 1;".repeat(3);
    private static final Check c = new Check();

    public static void main(String[] args) {
        place();
        empty();
        rest();
        restStays();
        on();
        minuteRefused();
        gapOfTheFirst();
        gapBetweenBoth();
        gapAndBreak();
        gapIsZeroAtLeast();
        frontHasNoGap();
        starts();
        stagedRefused();
        failsByGap();
        failsByKind();
        failsByFeud();
        failsByTrain();
        failsByClose();
        firstOfFive();
        nightRefused();
        heatAtBreak();
        ices();
        chill();
        tones();
        tonesAtTheirEdge();
        clapsRounded();
        seats();
        tired();
        heatBehind();
        peopleLeave();
        valueOfOne();
        worth();
        c.end();
    }

    private static void place() {
        c.says("a row of acts, each once at most");
        NineActs x = Check.told(NINE);
        for (int i = 8; i >= 0; i--) {
            c.due("place(" + i + ")", x.place(i), 9 - i);
            c.due("place(" + i + ") again", x.place(i), STATE);
        }
        for (int i = 0; i < 9; i++) {
            c.due("place(" + i + ") on a full bill", x.place(i), STATE);
            c.due("on(" + i + ")", x.on(i), 8 - i);
        }
        c.due("nine", x.count(1), 9);
        c.says("An act comes to THE BILL's end: how many it has. BAD; STATE: it is on it.");
        c.due("place(9)", x.place(9), BAD);
        c.due("place(-1)", x.place(-1), BAD);
        for (int far : FAR) {
            c.due("place(" + far + ")", x.place(far), BAD);
        }
        c.due("of no acts", new NineActs().place(0), BAD);
        c.due("of one act", Check.told("act 0 1 1;").place(1), BAD);
    }

    private static void empty() {
        c.says("THE BILL is empty, there is no BREAK: how many it had.");
        NineActs x = new NineActs();
        c.due("of a new object", x.empty(), 0);
        x = Check.billed(NINE, "012345678");
        x.rest(8);
        c.due("nine", x.empty(), 9);
        c.due("none", x.count(1), 0);
        c.due("no break", x.count(2), 0);
        c.due("again", x.empty(), 0);
        for (int i = 0; i < 9; i++) {
            c.due("each may come again", x.place(i), i + 1);
        }
        c.due("no break", x.count(2), 0);
    }

    private static void rest() {
        c.says("The BREAK is behind so many acts (0 .. how many less 1; 0: none): what it was."
                + " BAD (THE BILL is empty, too).");
        NineActs x = Check.told(NINE);
        for (int b = -1; b <= 1; b++) {
            c.due("rest(" + b + ") of an empty bill", x.rest(b), BAD);
        }
        for (int many = 1; many <= 9; many++) {
            x.place(many - 1);
            c.due("rest(0) of " + many, x.rest(0), 0);
            c.due("rest(-1) of " + many, x.rest(-1), BAD);
            c.due("rest(" + many + ") of as many", x.rest(many), BAD);
            c.due("rest(" + (many + 1) + ") of " + many, x.rest(many + 1), BAD);
            c.due("none of " + many, x.count(2), 0);
            c.due("rest(" + (many - 1) + ") of " + many, x.rest(many - 1), 0);
            c.due("what it was", x.rest(0), many - 1);
        }
        x.rest(8);
        for (int far : FAR) {
            c.due("rest(" + far + ")", x.rest(far), BAD);
        }
        c.due("it stays", x.count(2), 8);
        x.empty();
        c.due("rest(0) of a bill that is empty again", x.rest(0), BAD);
    }

    private static void restStays() {
        c.says("behind how many of them the BREAK is (0: there is none)");
        NineActs x = Check.billed(NINE, "01");
        x.rest(1);
        x.place(2);
        c.due("as another act comes", x.count(2), 1);
        c.due("it is ahead of place 1", x.minute(1, 1), 11);
        c.due("not ahead of place 2", x.minute(2, 1), 12);
        x.rest(0);
        c.due("none", x.minute(2, 1), 2);
    }

    private static void on() {
        c.says("The act at a place. BAD.");
        NineActs x = Check.told(NINE);
        c.due("on(0) of an empty bill", x.on(0), BAD);
        for (int p = 0; p < 9; p++) {
            x.place((p + 4) % 9);
            c.due("on(" + p + ")", x.on(p), (p + 4) % 9);
            c.due("on(" + (p + 1) + ")", x.on(p + 1), BAD);
            c.due("on(-1)", x.on(-1), BAD);
        }
        for (int far : FAR) {
            c.due("on(" + far + ")", x.on(far), BAD);
        }
    }

    private static void minuteRefused() {
        c.says("Of a place: 0 GAP, 1 when it starts, 2 when it ends. BAD.");
        NineActs x = Check.told(NINE);
        c.due("of an empty bill", x.minute(0, 0), BAD);
        x = Check.billed(NINE, "012345678");
        for (int what = 0; what <= 2; what++) {
            c.due("minute(8, " + what + ")", x.minute(8, what), new int[] {0, 8, 9}[what]);
            c.due("minute(9, " + what + ")", x.minute(9, what), BAD);
            c.due("minute(-1, " + what + ")", x.minute(-1, what), BAD);
        }
        c.due("minute(8, 3)", x.minute(8, 3), BAD);
        c.due("minute(8, -1)", x.minute(8, -1), BAD);
        for (int far : FAR) {
            c.due("minute(" + far + ", 0)", x.minute(far, 0), BAD);
            c.due("minute(0, " + far + ")", x.minute(0, far), BAD);
        }
    }

    private static void gapOfTheFirst() {
        c.says("STRIKE of the last one ahead on the WHOLE stage (0, if it is the first such)");
        c.due("its set alone", Check.tuned("act 0 1 1 set 9 9;").minute(0, 0), 9);
        c.due("no set", Check.tuned("act 0 1 1 set 0 9;").minute(0, 0), 0);
        c.says("less LONG of all FRONT ones between both (all ahead of it, if it is the first such)");
        c.due("one ahead", Check.tuned("act 0 1 1 front;act 1 1 1 set 9 9;").minute(1, 0), 8);
        c.due("two ahead", Check.tuned("act 0 1 1 front;act 1 2 1 front;act 1 1 1 set 9 9;").minute(2, 0), 6);
        String three = "act 0 4 1 front;act 1 2 1 front;act 2 2 1 front;act 3 1 1 set 9 9;";
        c.due("three ahead, one minute short", Check.tuned(three).minute(3, 0), 1);
    }

    private static void gapBetweenBoth() {
        c.says("its SET, and STRIKE of the last one ahead on the WHOLE stage");
        c.due("18 at most", Check.tuned("act 0 1 1 set 0 9;act 1 1 1 set 9 0;").minute(1, 0), 18);
        NineActs x = Check.tuned("act 0 1 1 set 0 9;act 1 1 1 set 0 2;act 2 1 1 set 3 0;");
        c.due("of the last one alone", x.minute(2, 0), 5);
        x = Check.tuned("act 0 1 1 set 0 9;act 1 3 1 front;act 2 4 1 front;act 3 1 1 set 3 0;");
        c.due("less both front ones", x.minute(3, 0), 5);
        x = Check.tuned("act 0 9 1 front;act 1 1 1 set 0 9;act 2 4 1 front;act 3 1 1 set 3 0;");
        c.due("not less the one ahead of both", x.minute(3, 0), 8);
        x = Check.tuned("act 0 1 1 set 0 9;act 2 4 1 front;act 3 1 1 set 3 0;act 4 9 1 front;");
        c.due("not less the one behind both", x.minute(2, 0), 8);
    }

    private static void gapAndBreak() {
        c.says("less BREAK, if it is between both, too (a BREAK ahead of the first such counts)");
        // front, front, whole, front, whole, whole; a BREAK of 4 minutes at each place.
        NineActs x = Check.tuned("act 0 1 1 front;act 1 1 1 front;act 2 1 1 set 9 8;act 3 1 1 front;"
                + "act 4 1 1 set 9 7;act 5 1 1 set 9 6;", BREAK, 4);
        int[][] due = {{7, 16, 16}, {3, 16, 16}, {3, 16, 16}, {7, 12, 16}, {7, 12, 16}, {7, 16, 12}};
        for (int b = 0; b < 6; b++) {
            x.rest(b);
            c.due("gap 2 with the break behind " + b, x.minute(2, 0), due[b][0]);
            c.due("gap 4 with the break behind " + b, x.minute(4, 0), due[b][1]);
            c.due("gap 5 with the break behind " + b, x.minute(5, 0), due[b][2]);
        }
    }

    private static void gapIsZeroAtLeast() {
        c.says("if it is between both, too (a BREAK ahead of the first such counts), 0 at least");
        NineActs x = Check.tuned("act 0 1 1 set 0 5;act 1 1 1 set 5 0;", BREAK, 9);
        x.rest(1);
        c.due("one minute short", x.minute(1, 0), 1);
        x.tune(BREAK, 10);
        c.due("just covered", x.minute(1, 0), 0);
        c.due("it starts behind the break", x.minute(1, 1), 11);
        x.tune(BREAK, 30);
        c.due("more than covered", x.minute(1, 0), 0);
        c.due("it starts behind the break", x.minute(1, 1), 31);
        x = Check.tuned("act 0 8 1 front;act 1 1 1 set 9 0;");
        c.due("one minute short", x.minute(1, 0), 1);
        x = Check.tuned("act 0 9 1 front;act 1 1 1 set 9 0;");
        c.due("just covered", x.minute(1, 0), 0);
        // What covers too much is not left over for the next gap.
        x = Check.tuned("act 0 30 1 front;act 1 1 1 set 9 5;act 2 1 1 set 5 0;");
        c.due("more than covered", x.minute(1, 0), 0);
        c.due("the next one is not covered", x.minute(2, 0), 10);
    }

    private static void frontHasNoGap() {
        c.says("A FRONT one has none.");
        NineActs x = Check.tuned("act 0 1 1 set 9 9;act 1 1 1 front;act 2 1 1 front;");
        c.due("behind one that must be struck", x.minute(1, 0), 0);
        c.due("it starts at once", x.minute(1, 1), 10);
        c.due("behind a front one", x.minute(2, 0), 0);
        c.due("first of all", Check.tuned("act 0 1 1 front;").minute(0, 1), 0);
    }

    private static void starts() {
        c.says("An act starts when the one ahead has ended (0 for the first), BREAK later, if that is between both,"
                + " GAP later; it ends LONG later.");
        c.due("the first, without a set", Check.tuned("act 0 30 1;").minute(0, 1), 0);
        c.due("the first, with a set", Check.tuned("act 0 30 1 set 9 9;").minute(0, 1), 9);
        c.due("it ends", Check.tuned("act 0 30 1 set 9 9;").minute(0, 2), 39);
        NineActs x = Check.tuned("act 0 2 1 set 0 9;act 1 3 1 set 9 0;act 2 4 1;", BREAK, 7);
        x.rest(1);
        c.due("2, then 7 and 11", x.minute(1, 1), 20);
        c.due("ends", x.minute(1, 2), 23);
        c.due("no break is ahead of the third", x.minute(2, 1), 23);
        x.tune(BREAK, 0);
        c.due("a break of no minutes", x.minute(1, 1), 20);
        String nine = "act 0 30 1 set 9 9;".repeat(9);
        c.due("as late as can be without a break", Check.tuned(nine).minute(8, 2), 9 + 9 * 30 + 8 * 18);
    }

    private static void stagedRefused() {
        c.says("STAGED: what fails (what = 0), at which place (1); NONE. BAD; STATE: THE BILL is empty.");
        NineActs x = Check.told(NINE);
        c.due("empty", x.staged(0), STATE);
        c.due("empty", x.staged(1), STATE);
        c.due("BAD is ahead of STATE", x.staged(2), BAD);
        c.due("BAD is ahead of STATE", x.staged(-1), BAD);
        x.place(0);
        c.due("staged(2)", x.staged(2), BAD);
        c.due("staged(-1)", x.staged(-1), BAD);
        for (int far : FAR) {
            c.due("staged(" + far + ")", x.staged(far), BAD);
        }
        x.empty();
        c.due("empty again", x.staged(0), STATE);
        c.says("NONE: it can be staged.");
        x.place(0);
        fails("one", x, NONE, NONE);
        fails("nine", Check.billed(NINE, "012345678"), NONE, NONE);
    }

    private static void fails(String what, NineActs x, int rule, int place) {
        c.due(what + ": what", x.staged(0), rule);
        c.due(what + ": where", x.staged(1), place);
    }

    private static void failsByGap() {
        c.says("1 a GAP is above MOST GAP");
        for (int most = 0; most <= 9; most++) {
            for (int set = 0; set <= 9; set++) {
                NineActs x = Check.tuned("act 0 1 1 set " + set + " 0;", MOST_GAP, most);
                fails("a gap of " + set + " by " + most, x, set > most ? 1 : NONE, set > most ? 0 : NONE);
            }
        }
        fails("10 by 9", Check.tuned("act 0 1 1 set 0 1;act 1 1 1 set 9 0;", MOST_GAP, 9), 1, 1);
        fails("the least place of two", Check.tuned("act 0 1 1;act 1 1 1 set 3 0;act 2 1 1 set 4 0;"), 1, 1);
    }

    private static void failsByKind() {
        c.says("2 an act has the KIND of the one ahead (no BREAK between both)");
        fails("the first has none ahead", Check.tuned("act 0 1 1;"), NONE, NONE);
        NineActs x = Check.tuned("act 5 1 1;act 5 1 1;act 0 1 1;act 0 1 1;");
        fails("the least place of two", x, 2, 1);
        x.rest(1);
        fails("a break between the first two", x, 2, 3);
        x.rest(2);
        fails("a break elsewhere", x, 2, 1);
        x.rest(3);
        fails("a break between the last two", x, 2, 1);
        x = Check.tuned("act 5 1 1;act 5 1 1;", BREAK, 0);
        x.rest(1);
        fails("a break of no minutes is one", x, NONE, NONE);
        fails("one between both", Check.tuned("act 5 1 1;act 4 1 1;act 5 1 1;"), NONE, NONE);
    }

    private static void failsByFeud() {
        c.says("3 an act is in FEUD with the one ahead");
        String acts = "act 0 1 1;act 1 1 1;act 2 1 1;";
        fails("0 with 1", Check.tuned(acts + "feud 0 1;"), 3, 1);
        fails("1 with 0", Check.tuned(acts + "feud 1 0;"), 3, 1);
        fails("2 with 1", Check.tuned(acts + "feud 2 1;"), 3, 2);
        fails("the least place of two", Check.tuned(acts + "feud 2 1;feud 1 0;"), 3, 1);
        fails("one between both", Check.tuned(acts + "feud 2 0;"), NONE, NONE);
        fails("the other way round", Check.billed(acts + "feud 0 1;", "210"), 3, 2);
        NineActs x = Check.tuned(acts + "feud 0 1;");
        x.rest(1);
        fails("a break between both is not told to help", x, 3, 1);
    }

    private static void failsByTrain() {
        c.says("4 an act ends behind its TRAIN");
        fails("at its minute", Check.tuned("act 0 5 1;act 1 5 1 train 10;"), NONE, NONE);
        fails("a minute behind", Check.tuned("act 0 6 1;act 1 5 1 train 10;"), 4, 1);
        fails("a minute behind, by a gap", Check.tuned("act 0 5 1;act 1 5 1 set 1 0 train 10;"), 4, 1);
        fails("the least place of two", Check.tuned("act 0 5 1 train 5;act 1 5 1 train 9;act 2 5 1 train 14;"), 4, 1);
        fails("none", Check.tuned("act 0 30 1;act 1 30 1;"), NONE, NONE);
        NineActs x = Check.tuned("act 0 5 1;act 1 5 1 train 10;", BREAK, 1);
        x.rest(1);
        fails("a minute behind, by a break", x, 4, 1);
        x.tune(BREAK, 0);
        fails("a break of no minutes", x, NONE, NONE);
    }

    private static void failsByClose() {
        c.says("5 the last one ends behind CLOSE (its place)");
        NineActs x = Check.tuned("act 0 10 1;act 1 10 1;act 2 1 1;", CLOSE, 21);
        fails("at close", x, NONE, NONE);
        x.tune(CLOSE, 20);
        fails("a minute behind", x, 5, 2);
        x.tune(CLOSE, 10);
        fails("the last one, though others are late, too", x, 5, 2);
        x = Check.tuned("act 0 10 1;", CLOSE, 10);
        fails("the least close", x, NONE, NONE);
        fails("a minute behind it", Check.tuned("act 0 11 1;", CLOSE, 10), 5, 0);
        x = Check.tuned("act 0 30 1 set 9 0;act 1 30 1 set 9 0;act 2 30 1 set 9 0;".repeat(3), MOST_GAP, 9, CLOSE, 351);
        fails("nine, as late as can be without another failure", x, NONE, NONE);
        x.tune(CLOSE, 350);
        fails("a minute behind", x, 5, 8);
        x.tune(CLOSE, 400);
        fails("the greatest close", x, NONE, NONE);
    }

    private static void firstOfFive() {
        c.says("STAGED: the first of these five that fails anywhere, and the least place at which it does");
        // Each rule fails at one place; a lower rule fails at a greater place.
        String acts = "act 0 30 1 train 1;act 1 30 1;act 2 30 1;act 2 30 1;act 3 30 1 set 9 0;feud 0 1;";
        NineActs x = Check.tuned(acts, CLOSE, 10);
        fails("all", x, 1, 4);
        x.tune(MOST_GAP, 9);
        fails("without the first", x, 2, 3);
        x.rest(3);
        fails("without the second", x, 3, 1);
        x = Check.billed(acts, "0213");
        x.tune(CLOSE, 10);
        fails("without the third", x, 4, 0);
        x = Check.billed(acts, "213");
        x.tune(CLOSE, 10);
        fails("without the fourth", x, 5, 2);
        x.tune(CLOSE, 90);
        fails("without the fifth", x, NONE, NONE);
    }

    private static void nightRefused() {
        c.says("Of a place in THE HOUSE: 0 HEAT by which CLAPS are, 1 CLAPS, 2 HEAT behind it, 3 PEOPLE behind it."
                + " BAD.");
        c.due("of an empty bill", Check.told(NINE).night(0, 0), BAD);
        NineActs x = Check.billed(NINE, "01234567");
        c.due("night(7, 3)", x.night(7, 3) > 0 ? 1 : 0, 1);
        for (int what = 0; what < 4; what++) {
            c.due("night(8, " + what + ")", x.night(8, what), BAD);
            c.due("night(-1, " + what + ")", x.night(-1, what), BAD);
        }
        c.due("night(0, 4)", x.night(0, 4), BAD);
        c.due("night(0, -1)", x.night(0, -1), BAD);
        for (int far : FAR) {
            c.due("night(" + far + ", 0)", x.night(far, 0), BAD);
            c.due("night(0, " + far + ")", x.night(0, far), BAD);
        }
    }

    /** Two acts with a break between both; the first claps as much as it is strong, if HEAT is 0 at first. */
    private static NineActs parted(int strength, int people) {
        NineActs x = Check.tuned("act 0 1 " + strength + ";act 1 1 1;", SEATS, 10, HEAT, 0, PEOPLE, people);
        x.rest(1);
        return x;
    }

    private static void heatAtBreak() {
        c.says("behind a BREAK that is just ahead HEAT is a half of it, rounded down");
        c.due("half of 0", parted(12, 400).night(1, 0), 0);
        c.due("half of 1", parted(13, 400).night(1, 0), 0);
        c.due("half of 2", parted(14, 400).night(1, 0), 1);
        c.due("half of 17", parted(29, 400).night(1, 0), 8);
        c.due("half of 18", parted(30, 400).night(1, 0), 9);
        NineActs x = parted(30, 400);
        x.tune(HEAT, 99);
        c.due("half of 100", x.night(1, 0), 50);
        c.due("heat behind the first is not halved", x.night(0, 2), 100);
        x.tune(BREAK, 0);
        c.due("a break of no minutes", x.night(1, 0), 50);
        x.rest(0);
        c.due("no break", x.night(1, 0), 100);
        // Only the act just behind the break finds it halved.
        x = Check.tuned("act 0 1 12;act 1 1 12;act 2 1 12;", SEATS, 10, HEAT, 8);
        x.rest(1);
        c.due("8 halved", x.night(1, 0), 4);
        c.due("4 stays", x.night(2, 0), 4);
    }

    private static void ices() {
        c.says("(ICES ahead of that: PEOPLE times HEAT by 1000, rounded down)");
        c.due("999 times 1", parted(13, 999).worth(1), 0);
        c.due("499 times 2", parted(14, 499).worth(1), 0);
        c.due("500 times 2", parted(14, 500).worth(1), 1);
        c.due("nobody", parted(30, 0).worth(1), 0);
        c.due("no heat", parted(12, 999).worth(1), 0);
        NineActs x = parted(30, 999);
        x.tune(HEAT, 99);
        c.due("999 times 100", x.worth(1), 99);
        x.rest(0);
        c.due("no break, no ices", x.worth(1), 0);
        // Who left behind the first act eats none: 368 of 400, at a heat of 8.
        x = Check.tuned("act 0 1 0;act 1 1 1;");
        x.rest(1);
        c.due("368 times 8", x.worth(1), 2);
    }

    private static void chill() {
        c.says("HEAT is less by CHILL for each minute of GAP, 0 at least");
        int[][] cases = {{18, 9, 2, 0}, {19, 9, 2, 1}, {17, 9, 2, 0}, {81, 9, 9, 0}, {82, 9, 9, 1}, {99, 0, 9, 99},
            {99, 9, 0, 99}, {0, 9, 9, 0}};
        for (int[] one : cases) {
            NineActs x = Check.tuned("act 0 1 30 set " + one[2] + " 0;", HEAT, one[0], CHILL, one[1], SEATS, 10);
            c.due(one[0] + " at first, " + one[1] + " for each of " + one[2], x.night(0, 0), one[3]);
            c.due("claps by it", x.night(0, 1), 30 * (100 + one[3]) / 100);
        }
        // Behind a break: halved first, then chilled. 30 of 50 are 45 claps: 83; 41, less 4 times 9.
        NineActs x = Check.tuned("act 0 1 30;act 1 1 0 set 9 0;", HEAT, 50, SEATS, 10, BREAK, 5, CHILL, 9);
        x.rest(1);
        c.due("41 less 36", x.night(1, 0), 5);
        x.tune(BREAK, 4);
        c.due("41 less 45", x.night(1, 0), 0);
        c.due("behind it", x.night(1, 2), 0);
    }

    private static NineActs toned(int ahead, int tone, int heat) {
        String[] tones = {"", "sad", "loud"};
        // The first has no claps: 12 less heat behind it.
        return Check.tuned("act 0 1 0 " + tones[ahead] + ";act 1 1 0 " + tones[tone] + ";", HEAT, heat + 12);
    }

    private static void tones() {
        c.says("less by 10, if the act has the TONE of the one ahead, sad or loud (no BREAK between both), less by 5,"
                + " if it is loud and that was sad (so, too)");
        int[][] due = {{20, 20, 20}, {20, 10, 15}, {20, 20, 10}};
        for (int ahead = 0; ahead < 3; ahead++) {
            for (int tone = 0; tone < 3; tone++) {
                NineActs x = toned(ahead, tone, 20);
                c.due(tone + " behind " + ahead, x.night(1, 0), due[ahead][tone]);
                x.rest(1);
                c.due(tone + " behind " + ahead + ", a break between both", x.night(1, 0), 10);
                x.tune(BREAK, 0);
                c.due(tone + " behind " + ahead + ", a break of no minutes", x.night(1, 0), 10);
            }
        }
        c.due("sad at place 0", Check.tuned("act 0 1 0 sad;").night(0, 0), 20);
        c.due("loud at place 0", Check.tuned("act 0 1 0 loud;").night(0, 0), 20);
        NineActs x = Check.tuned("act 0 1 0 sad;act 1 1 0;act 2 1 0 sad;", HEAT, 50);
        c.due("one between both", x.night(2, 0), 26);
    }

    private static void tonesAtTheirEdge() {
        c.says("if it is loud and that was sad (so, too), 0 at least");
        for (int heat = 0; heat < 14; heat++) {
            c.due("sad behind sad of " + heat, toned(1, 1, heat).night(1, 0), Math.max(0, heat - 10));
            c.due("loud behind loud of " + heat, toned(2, 2, heat).night(1, 0), Math.max(0, heat - 10));
            c.due("loud behind sad of " + heat, toned(1, 2, heat).night(1, 0), Math.max(0, heat - 5));
            c.due("sad behind loud of " + heat, toned(2, 1, heat).night(1, 0), heat);
        }
        NineActs x = Check.tuned("act 0 1 0 sad;act 1 1 0 set 3 0 sad;", HEAT, 29);
        c.due("17, less 3 times 2, less 10", x.night(1, 0), 1);
        x.tune(CHILL, 6);
        c.due("17, less 3 times 6 is 0, less 10", x.night(1, 0), 0);
    }

    private static void clapsRounded() {
        c.says("STRENGTH times (100 and HEAT) by 100, rounded down, times seats by 10, rounded down");
        // 7 times 113 is 791: 7, then 49: 4 (not 5, as of 7.91).
        c.due("rounded twice", Check.tuned("act 0 1 7;", HEAT, 13, SEATS, 7).night(0, 1), 4);
        c.due("1 at 99", Check.tuned("act 0 1 1;", HEAT, 99, SEATS, 10).night(0, 1), 1);
        c.due("30 at 99", Check.tuned("act 0 1 30;", HEAT, 99, SEATS, 10).night(0, 1), 59);
        c.due("30 at 0", Check.tuned("act 0 1 30;", HEAT, 0, SEATS, 10).night(0, 1), 30);
        c.due("0 at 99", Check.tuned("act 0 1 0;", HEAT, 99, SEATS, 10).night(0, 1), 0);
        c.due("1 of 9 tenths", Check.tuned("act 0 1 1;", HEAT, 0, SEATS, 9).night(0, 1), 0);
        c.due("30 at 100", Check.tuned("act 0 1 30;act 1 1 30;", HEAT, 99, SEATS, 10).night(1, 1), 60);
    }

    private static void seats() {
        c.says("(at place 0 SEATS, at place 1 half of SEATS and 10 together, rounded down, else 10)");
        for (int seats = 0; seats <= 10; seats++) {
            NineActs x = Check.tuned("act 0 1 10;act 1 1 10;act 2 1 10;act 3 1 10;", HEAT, 0, SEATS, seats);
            c.due("place 0 by " + seats, x.night(0, 1), seats);
            c.due("place 1 by " + seats, x.night(1, 1), new int[] {5, 5, 6, 6, 7, 7, 8, 8, 9, 9, 10}[seats]);
            c.due("place 2 by " + seats, x.night(2, 1), 10);
            c.due("place 3 by " + seats, x.night(3, 1), 10);
        }
    }

    private static void tired() {
        c.says("less TIRED for each place beyond 5, 0 at least");
        NineActs x = Check.tuned("act 0 1 10;act 1 1 10;act 2 1 10;".repeat(3), HEAT, 0, SEATS, 10);
        int[][] due = {{10, 10, 10}, {9, 8, 7}, {8, 6, 4}, {7, 4, 1}, {6, 2, 0}, {5, 0, 0}, {4, 0, 0}, {3, 0, 0},
            {2, 0, 0}, {1, 0, 0}};
        for (int tired = 0; tired <= 9; tired++) {
            x.tune(TIRED, tired);
            c.due("place 4 by " + tired, x.night(4, 1), 10);
            c.due("place 5 by " + tired, x.night(5, 1), 10);
            for (int k = 0; k < 3; k++) {
                c.due("place " + (k + 6) + " by " + tired, x.night(k + 6, 1), due[tired][k]);
            }
            int sum = 60 + due[tired][0] + due[tired][1] + due[tired][2];
            c.due("value by " + tired, x.worth(0), sum + due[tired][2]);
        }
    }

    private static void heatBehind() {
        c.says("HEAT is more by CLAPS less 12, 0 .. 100");
        int[][] cases = {{12, 0, 0}, {11, 0, 0}, {13, 0, 1}, {0, 0, 0}, {0, 12, 0}, {0, 13, 1}, {0, 11, 0},
            {88, 12, 98}, {88, 13, 100}, {88, 14, 100}, {99, 30, 100}, {99, 6, 98}, {99, 0, 87}};
        for (int[] one : cases) {
            NineActs x = Check.tuned("act 0 1 " + one[1] + ";act 1 1 0;", HEAT, one[0], SEATS, 10);
            c.due(one[0] + ", a strength of " + one[1], x.night(0, 2), one[2]);
            c.due("the next one finds it", x.night(1, 0), one[2]);
        }
    }

    private static void peopleLeave() {
        c.says("PEOPLE are less by PEOPLE times (8 less CLAPS) by 100, rounded down, if CLAPS are below 8");
        int[][] cases = {{400, 8, 400}, {400, 9, 400}, {400, 30, 400}, {400, 7, 396}, {99, 7, 99}, {100, 7, 99},
            {199, 7, 198}, {200, 7, 198}, {400, 0, 368}, {999, 0, 920}, {12, 0, 12}, {13, 0, 12}, {1, 0, 1},
            {0, 0, 0}, {999, 1, 930}};
        for (int[] one : cases) {
            NineActs x = Check.tuned("act 0 1 " + one[1] + ";", HEAT, 0, SEATS, 10, PEOPLE, one[0]);
            c.due(one[0] + " by " + one[1] + " claps", x.night(0, 3), one[2]);
        }
        NineActs x = Check.tuned("act 0 1 0;".repeat(9), PEOPLE, 100);
        int[] due = {92, 85, 79, 73, 68, 63, 58, 54, 50};
        for (int p = 0; p < 9; p++) {
            c.due("place by place " + p, x.night(p, 3), due[p]);
        }
        c.due("at the end", x.worth(2), 50);
    }

    private static void valueOfOne() {
        c.says("VALUE: all CLAPS, those of the last act twice, and ICES.");
        c.due("one", Check.tuned("act 0 1 10;", HEAT, 0, SEATS, 10).worth(0), 20);
        c.due("one of no strength", Check.tuned("act 0 1 0;").worth(0), 0);
        c.due("two", Check.tuned("act 0 1 10;act 1 1 11;", HEAT, 0, SEATS, 10).worth(0), 32);
        // 28 claps: 16 of heat, 6 ices; 8 of heat are left: 10 times 108 by 100.
        NineActs x = Check.tuned("act 0 1 28;act 1 1 10;", HEAT, 0, SEATS, 10);
        x.rest(1);
        c.due("two and ices", x.worth(0), 28 + 20 + 6);
        x.tune(PEOPLE, 0);
        c.due("no ices", x.worth(0), 28 + 20);
        // All that a house can give: 59, then 60 eight times, the last twice.
        x = Check.tuned("act 0 1 30;act 1 1 30;act 2 1 30;".repeat(3), HEAT, 99, SEATS, 10, TIRED, 0, PEOPLE, 999);
        c.due("nine of the strongest", x.worth(0), 59 + 8 * 60 + 60);
    }

    private static void worth() {
        c.says("0 VALUE, 1 ICES, 2 PEOPLE at the end, 3 when it ends. BAD; STATE: THE BILL is empty.");
        NineActs x = Check.told(NINE);
        for (int what = 0; what < 4; what++) {
            c.due("worth(" + what + ") of an empty bill", x.worth(what), STATE);
        }
        c.due("BAD is ahead of STATE", x.worth(4), BAD);
        c.due("BAD is ahead of STATE", x.worth(-1), BAD);
        c.due("a new object", new NineActs().worth(0), STATE);
        x.place(0);
        c.due("worth(4)", x.worth(4), BAD);
        c.due("worth(-1)", x.worth(-1), BAD);
        for (int far : FAR) {
            c.due("worth(" + far + ")", x.worth(far), BAD);
        }
        int[] due = {0, 0, 368, 1};
        for (int what = 0; what < 4; what++) {
            c.due("worth(" + what + ") of one", x.worth(what), due[what]);
        }
        c.due("the gap of the first counts", Check.tuned("act 0 30 1 set 9 9;").worth(3), 39);
    }
}
