/** Promises 23 to 28: marks, parted, opener, hold, drawn, lot. */
public final class MarksTest {
    private static final Check c = new Check();

    public static void main(String[] args) {
        mark();
        parted();
        partedOfManyPlaces();
        opener();
        hold();
        drawn();
        drawnGoesByItsClaps();
        lot();
        c.end();
    }

    private static void mark() {
        NineActs x = Check.told("act 0 1 1;act 0 1 1;");
        c.due("mark(2, 0, 0)", x.mark(2, 0, 0), NineActs.BAD);
        c.due("mark(-1, 0, 0)", x.mark(-1, 0, 0), NineActs.BAD);
        c.due("mark(0, 9, 0)", x.mark(0, 9, 0), NineActs.BAD);
        c.due("mark(0, -1, 0)", x.mark(0, -1, 0), NineActs.BAD);
        c.due("mark(0, 0, 100)", x.mark(0, 0, 100), NineActs.BAD);
        c.due("mark(0, 0, -1)", x.mark(0, 0, -1), NineActs.BAD);
        c.due("none", x.count(3), 0);
        for (int k = 1; k <= 60; k++) {
            c.due("mark " + k, x.mark(k % 2, k % 9, k), k);
        }
        c.due("mark 61", x.mark(0, 0, 0), NineActs.FULL);
        c.due("BAD ahead of FULL", x.mark(0, 9, 0), NineActs.BAD);
        c.due("sixty", x.count(3), 60);
    }

    private static void due(NineActs x, int i, int upper, int lower) {
        c.due("parted(" + i + ", 0)", x.parted(i, 0), upper);
        c.due("parted(" + i + ", 1)", x.parted(i, 1), lower);
    }

    private static void parted() {
        NineActs x = Check.told("act 0 1 1;act 0 1 1;act 0 1 1;");
        due(x, 0, NineActs.NO, NineActs.NO);
        x.mark(0, 4, 50);
        due(x, 0, 0, 1);
        x.mark(1, 4, 51);
        due(x, 0, -1, 2);
        due(x, 1, 1, 2);
        x.mark(1, 4, 55);
        // The mean is 52: 51 and 55 are -1 and 3.
        due(x, 0, -2, 1);
        due(x, 1, 1, 1);
        x.mark(0, 0, 7);
        // At place 0 it is alone: -2 and 0.
        due(x, 0, -1, 1);
        due(x, 2, NineActs.NO, NineActs.NO);
        c.due("parted(3, 0)", x.parted(3, 0), NineActs.NO);
        c.due("parted(-1, 0)", x.parted(-1, 0), NineActs.NO);
        c.due("parted(0, 2)", x.parted(0, 2), NineActs.NO);
        c.due("parted(0, -1)", x.parted(0, -1), NineActs.NO);
    }

    private static void partedOfManyPlaces() {
        // Place p has p + 2 marks, one of them 99 of act 0, else 0: 99 * (1 - 1 / (p + 2)) each.
        NineActs x = Check.told("act 0 1 1;act 0 1 1;");
        for (int p = 0; p < 9; p++) {
            x.mark(0, p, 99);
            for (int k = 0; k <= p; k++) {
                x.mark(1, p, 0);
            }
        }
        c.due("marks", x.count(3), 54);
        // 1/2 + .. + 1/10 = 4861 / 2520; 99 * (9 - 4861 / 2520) / 9 = 11 * 17819 / 2520.
        due(x, 0, 11 * 17819, 2520);
        // Act 1: each place 99 * (p + 1) / (p + 2) below, in 45 marks.
        due(x, 1, -11 * 17819, 12600);
    }

    private static void opener() {
        NineActs x = Check.told("act 0 1 5;act 0 1 4;act 0 1 4;");
        c.due("the least strength, the first", x.opener(), 1);
        x.mark(1, 0, 0);
        c.due("the fewest marks", x.opener(), 2);
        x.mark(2, 1, 0);
        c.due("at place 0 alone", x.opener(), 2);
        x.mark(2, 0, 0);
        c.due("fewest though stronger", x.opener(), 0);
        x.mark(0, 0, 99);
        c.due("equal again", x.opener(), 1);
        x.place(0);
        c.due("of all acts, not of the bill", x.opener(), 1);
        c.due("none", new NineActs().opener(), NineActs.NONE);
    }

    private static void hold() {
        NineActs x = Check.told("act 0 10 1;act 1 5 1;act 2 20 1 set 9 9;");
        c.due("hold of none", x.hold(0), NineActs.STATE);
        c.due("hold(2)", x.hold(2), NineActs.BAD);
        c.due("hold(-1)", x.hold(-1), NineActs.BAD);
        x.place(2);
        x.place(1);
        x.place(0);
        c.due("no families", x.hold(0), 0);
        c.due("the first order", x.hold(1), 12);
        x.family(0, 4);
        x.family(1, 1);
        x.family(2, 8);
        // For each minute 4/10, 1/5, 8/20: 1 first, then 0 and 2 either way, 0 first.
        c.due("5 + 4 * 15 + 8 * 35", x.hold(0), 345);
        c.due("1 0 2", x.hold(1), 102);
        x.rest(1);
        c.due("without break and gaps", x.hold(0), 345);
        x.family(2, 7);
        c.due("2 ahead of 0", x.hold(1), 120);
        c.due("5 + 7 * 25 + 4 * 35", x.hold(0), 320);
        c.due("the bill stays", x.on(0), 2);
        x.empty();
        x.place(2);
        c.due("one alone", x.hold(0), 140);
        c.due("its figure", x.hold(1), 2);
    }

    private static int next(int lot) {
        return lot * 1103515245 + 12345;
    }

    private static void drawn() {
        NineActs x = Check.billed("act 0 5 20;", "");
        c.due("drawn of none", x.drawn(), NineActs.STATE);
        c.due("the lot stays", x.lot(1), 1);
        x.place(0);
        // 1103527590 has 16838 above, left over 3: one more than 12, twice.
        c.due("drawn of one", x.drawn(), 26);
        c.due("the lot went on once", x.lot(1), 1103527590);
        int lot = 1;
        for (int k = 0; k < 20; k++) {
            lot = next(lot);
            int draw = (lot >>> 16) % 5;
            c.due("drawn again " + k, x.drawn(), 2 * (12 + draw - 2));
        }
        c.due("the night is as it was", x.worth(0), 24);
    }

    private static void drawnGoesByItsClaps() {
        NineActs x = Check.billed("act 0 5 20;act 1 5 0;act 2 5 20;", "012");
        x.rest(1);
        for (int seed = -3; seed < 30; seed++) {
            x.lot(seed);
            int lot = next(seed);
            int first = 12 + (lot >>> 16) % 5 - 2;
            int heat = 20 + first - 12;
            int ices = 400 * heat / 1000;
            lot = next(lot);
            int second = Math.max(0, (lot >>> 16) % 5 - 2);
            heat = Math.max(0, heat / 2 + second - 12);
            lot = next(lot);
            int third = 20 * (100 + heat) / 100 + (lot >>> 16) % 5 - 2;
            c.due("drawn from " + seed, x.drawn(), first + second + 2 * third + ices);
            c.due("three draws", x.lot(0), lot);
        }
    }

    private static void lot() {
        NineActs x = new NineActs();
        c.due("lot(-5)", x.lot(-5), 1);
        c.due("lot least", x.lot(Integer.MIN_VALUE), -5);
        c.due("lot most", x.lot(Integer.MAX_VALUE), Integer.MIN_VALUE);
        c.due("lot 0", x.lot(0), Integer.MAX_VALUE);
    }
}
