/** Promises 29 to 33: rate, keep, back, count, trace; and the constants. */
public final class KindsTest {
    private static final Check c = new Check();

    public static void main(String[] args) {
        constants();
        rate();
        rateRefused();
        keepAndBack();
        imagesKeepNothingElse();
        count();
        c.end();
    }

    private static void constants() {
        c.due("BAD", NineActs.BAD, -1);
        c.due("STATE", NineActs.STATE, -2);
        c.due("FULL", NineActs.FULL, -3);
        c.due("NONE", NineActs.NONE, -9);
        c.due("NO", NineActs.NO, -1000000);
    }

    private static void rate() {
        NineActs x = Check.told("act 0 7 20 set 4 5;act 0 30 0 set 9 9;");
        x.family(0, 11);
        int[] due = {20, 25, 27, 50, 22, 11};
        long[] trace = {1, 11, 101, 1011, 110001, 100001};
        long all = 0;
        for (int kind = 0; kind < 6; kind++) {
            c.due("rate(" + kind + ", 0)", x.rate(kind, 0), due[kind]);
            all += trace[kind];
            c.due("trace", x.trace(), all);
        }
        c.due("below 0", x.rate(5, 1), -18);
        c.due("below 0", x.rate(4, 1), -18);
        x.tune(4, 10);
        c.due("by seats", x.rate(3, 0), 60);
        c.due("an act that is not on the bill", x.count(1), 0);
        for (int k = 0; k < 400; k++) {
            x.rate(4, 0);
        }
        c.due("trace", x.trace(), all + 100001 + 110001 + 1011 + 400 * 110001L);
    }

    private static void rateRefused() {
        NineActs x = Check.told("act 0 7 20;");
        c.due("rate(6, 0)", x.rate(6, 0), NineActs.NO);
        c.due("rate(-1, 0)", x.rate(-1, 0), NineActs.NO);
        c.due("rate(0, 1)", x.rate(0, 1), NineActs.NO);
        c.due("rate(0, -1)", x.rate(0, -1), NineActs.NO);
        c.due("no trace", x.trace(), 0);
    }

    private static void keepAndBack() {
        NineActs x = Check.billed("act 0 1 1;act 1 1 1;act 2 1 1;", "20");
        x.rest(1);
        x.lot(5);
        c.due("back of none", x.back(0), NineActs.STATE);
        c.due("keep(2)", x.keep(2), NineActs.BAD);
        c.due("keep(-1)", x.keep(-1), NineActs.BAD);
        c.due("back(2)", x.back(2), NineActs.BAD);
        c.due("back(-1)", x.back(-1), NineActs.BAD);
        c.due("keep(0)", x.keep(0), 2);
        c.due("the other was not kept", x.back(1), NineActs.STATE);
        x.place(1);
        x.rest(2);
        x.lot(6);
        c.due("keep(1)", x.keep(1), 3);
        x.empty();
        x.lot(7);
        c.due("back(0)", x.back(0), 2);
        c.due("its first", x.on(0), 2);
        c.due("its second", x.on(1), 0);
        c.due("no third", x.on(2), NineActs.BAD);
        c.due("its break", x.count(2), 1);
        c.due("its lot", x.lot(8), 5);
        c.due("back(1)", x.back(1), 3);
        c.due("its third", x.on(2), 1);
        c.due("its break", x.count(2), 2);
        c.due("its lot", x.lot(9), 6);
        c.due("place what is on it", x.place(1), NineActs.STATE);
        c.due("back(0) again", x.back(0), 2);
        c.due("an act comes to it", x.place(1), 3);
        c.due("the image has it not", x.back(0), 2);
        x.empty();
        c.due("keep an empty bill", x.keep(0), 0);
        x.back(1);
        c.due("back to it", x.back(0), 0);
        c.due("empty", x.count(1), 0);
        c.due("no break", x.count(2), 0);
    }

    private static void imagesKeepNothingElse() {
        NineActs x = Check.billed("act 0 1 1;act 1 1 1;", "0");
        x.keep(0);
        x.family(0, 9);
        x.tune(0, 9);
        x.mark(0, 0, 1);
        x.rate(0, 0);
        Check.write(x, "abc");
        x.back(0);
        c.due("family", x.act(0, 8), 9);
        c.due("tune", x.tune(0, 1), 9);
        c.due("marks", x.count(3), 1);
        c.due("trace", x.trace(), 1);
        c.due("text", x.count(4), 3);
    }

    private static void count() {
        NineActs x = Check.billed("act 0 1 1;act 1 1 1;act 2 1 1;", "12");
        x.rest(1);
        x.mark(0, 0, 0);
        Check.write(x, "act 0");
        c.due("count(0)", x.count(0), 3);
        c.due("count(1)", x.count(1), 2);
        c.due("count(2)", x.count(2), 1);
        c.due("count(3)", x.count(3), 1);
        c.due("count(4)", x.count(4), 5);
        c.due("count(5)", x.count(5), NineActs.BAD);
        c.due("count(-1)", x.count(-1), NineActs.BAD);
    }
}
