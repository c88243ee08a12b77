/** Promises 17 to 22: best, custom, when, ill, halves, tryout. */
public final class OtherBillsTest {
    private static final Check c = new Check();

    public static void main(String[] args) {
        bestRefused();
        bestOfTwo();
        bestOfEquals();
        bestIsFoundAnew();
        bestNone();
        bestOfSeven();
        custom();
        when();
        illRefused();
        illLeastChange();
        illBreak();
        halves();
        halvesNone();
        tryoutRefused();
        tryout();
        tryoutBreak();
        c.end();
    }

    private static final String NINE = "act 0 1 1;act 1 1 1;act 2 1 1;act 3 1 1;act 4 1 1;"
            + "act 5 1 1;act 0 1 1;act 1 1 1;act 2 1 1;";

    private static void bestRefused() {
        NineActs x = Check.told(NINE);
        c.due("best of none", x.best(0), NineActs.STATE);
        c.due("best(4)", x.best(4), NineActs.BAD);
        c.due("best(-1)", x.best(-1), NineActs.BAD);
        x = Check.billed(NINE, "01234567");
        for (int what = 0; what < 4; what++) {
            c.due("best of eight", x.best(what), NineActs.STATE);
        }
        c.due("best(4) of eight", x.best(4), NineActs.BAD);
    }

    private static void bestOfTwo() {
        // Weak first: 12 * 120 / 100 = 14, 7 claps, heat 15; 20 * 115 / 100 = 23, of 7 tenths 16.
        // With a break: ices 396 * 15 / 1000 = 5; 20 * 107 / 100 = 21, of 7 tenths 14: 7 + 28 + 5.
        // Strong first: 12 claps, heat 20; 14 of 7 tenths 9: 12 + 18; with a break 8 ices,
        // 13 of 7 tenths 9: 12 + 18 + 8.
        NineActs x = Check.billed("act 0 5 20;act 1 5 12;", "01");
        c.due("value", x.best(0), 40);
        c.due("order", x.best(1), 10);
        c.due("break", x.best(2), 1);
        c.due("how many", x.best(3), 4);
        x = Check.billed("act 0 5 20;act 1 5 12 train 10;", "01");
        c.due("with a break 1 first alone", x.best(3), 3);
        c.due("the bill stays", x.on(0), 0);
        c.due("the break stays", x.count(2), 0);
    }

    private static void bestOfEquals() {
        NineActs x = Check.billed("act 0 1 0;act 1 1 0;act 2 1 0;", "210");
        x.tune(6, 0);
        c.due("all are worth 0", x.best(0), 0);
        c.due("the first order", x.best(1), 12);
        c.due("the least break", x.best(2), 0);
        c.due("6 orders, 3 breaks", x.best(3), 18);
        x = Check.billed("act 0 3 0 set 2 0;act 1 1 0 front;act 1 1 0;", "012");
        x.tune(6, 0);
        x.tune(0, 0);
        // 0 needs two minutes that are covered ahead of it: 1 has one, so a break must help.
        c.due("the first order that has both", x.best(1), 102);
        c.due("the break just ahead of 0", x.best(2), 1);
    }

    private static void bestIsFoundAnew() {
        NineActs x = Check.billed("act 0 5 20;act 1 5 12;act 2 5 30;", "01");
        c.due("two", x.best(1), 10);
        x.place(2);
        int withThree = x.best(1);
        c.due("three", x.best(3), 18);
        x.tune(1, 14);
        c.due("none by close", x.best(3), 0);
        x.tune(1, 15);
        c.due("close parts breaks off", x.best(3), 6);
        x.tune(1, 180);
        c.due("as it was", x.best(1), withThree);
        x.keep(0);
        x.empty();
        x.place(2);
        c.due("another bill", x.best(1), 2);
        x.back(0);
        c.due("back", x.best(1), withThree);
        x.ill(0, 1);
        x.tryout(0, 1, 1, 0);
        x.custom();
        c.due("other questions between", x.best(1), withThree);
        Check.write(x, "act 3 5 1;");
        x.acts();
        c.due("other acts", x.best(1), NineActs.STATE);
        x.place(0);
        c.due("one other act: 1 clap of 5 tenths is none", x.best(0), 0);
    }

    private static void bestNone() {
        NineActs x = Check.billed("act 0 1 1 set 9 9;", "0");
        c.due("value", x.best(0), NineActs.NONE);
        c.due("order", x.best(1), NineActs.NONE);
        c.due("break", x.best(2), NineActs.NONE);
        c.due("how many", x.best(3), 0);
        x = Check.billed("act 0 1 1;act 0 1 1;act 0 1 1;", "012");
        c.due("three of a kind", x.best(3), 0);
        x = Check.billed("act 0 1 1;act 0 1 1;", "01");
        c.due("two of a kind, a break between", x.best(3), 2);
        x = Check.billed("act 0 1 1;act 1 1 1;feud 0 1;", "01");
        c.due("a feud", x.best(3), 0);
    }

    private static void bestOfSeven() {
        NineActs x = Check.billed("act 0 1 0;act 1 1 0;act 2 1 0;act 3 1 0;act 4 1 0;act 5 1 0;act 0 1 0 front;",
                "6543210");
        x.tune(6, 0);
        c.due("value", x.best(0), 0);
        c.due("order", x.best(1), 123456);
        // 5040 orders with 7 breaks, less those with 0 and 6 side by side (1440), but for 240 of
        // them with each of the 6 breaks.
        c.due("how many", x.best(3), 5040 * 7 - 1440 * 7 + 240 * 6);
    }

    private static void custom() {
        NineActs x = Check.billed("act 0 5 20;act 1 5 12;act 2 5 20;act 3 5 8;", "");
        c.due("custom of none", x.custom(), NineActs.STATE);
        x.place(0);
        c.due("one", x.custom(), x.worth(0));
        x.place(3);
        // The strongest, 0, comes next to last: ahead of 3.
        c.due("two", x.custom(), x.worth(0));
        x.place(2);
        x.place(1);
        x.rest(3);
        NineActs y = Check.billed("act 0 5 20;act 1 5 12;act 2 5 20;act 3 5 8;", "3120");
        y.rest(3);
        c.due("four", x.custom(), y.worth(0));
        c.due("the bill stays", x.on(1), 3);
        // It need not be staged: a gap of 18 ahead of each but the first.
        x = Check.billed("act 0 5 10 set 9 9;act 0 5 20 set 9 9;", "01");
        c.due("custom that can't be staged: 10, twice 7", x.custom(), 24);
        // By number alone, and the greatest of equals next to last.
        x = Check.billed("act 0 1 9 sad;act 1 1 9;act 2 1 9 sad;", "120");
        y = Check.billed("act 0 1 9 sad;act 1 1 9;act 2 1 9 sad;", "021");
        c.due("equals", x.custom(), y.worth(0));
    }

    private static void when() {
        NineActs x = Check.billed("act 0 5 20;act 1 5 20;act 2 5 20;", "");
        c.due("when of none", x.when(), NineActs.STATE);
        x.place(0);
        c.due("when of one", x.when(), 0);
        x.place(1);
        x.place(2);
        // None: 76. Behind two: 81. Behind one: 8 ices, heat 10: 22 of 7 tenths 15, heat 13: 22: 79.
        c.due("when", x.when(), 2);
        c.due("the break stays", x.count(2), 0);
        x.tune(1, 20);
        c.due("close comes ahead of any break", x.when(), 0);
        x.tune(1, 14);
        c.due("none", x.when(), NineActs.NONE);
        x = Check.billed("act 0 5 0;act 0 5 0;act 1 5 0;", "012");
        x.tune(6, 0);
        c.due("a break must part kinds", x.when(), 1);
        x = Check.billed("act 0 5 0;act 1 5 0;act 2 5 0;", "012");
        x.tune(6, 0);
        c.due("of several the least", x.when(), 0);
    }

    private static void illRefused() {
        NineActs x = Check.billed(NINE, "0");
        c.due("no other act", x.ill(0, 0), NineActs.STATE);
        c.due("what 3 of one", x.ill(0, 3), NineActs.BAD);
        c.due("not on the bill", x.ill(1, 0), NineActs.BAD);
        c.due("no act", x.ill(9, 0), NineActs.BAD);
        c.due("act -1", x.ill(-1, 0), NineActs.BAD);
        c.due("act NONE", x.ill(NineActs.NONE, 0), NineActs.BAD);
        x = Check.billed(NINE, "01234567");
        c.due("eight", x.ill(0, 0), NineActs.STATE);
        c.due("not among eight", x.ill(8, 0), NineActs.BAD);
        c.due("what -1", x.ill(0, -1), NineActs.BAD);
        x = Check.billed(NINE, "0123456");
        c.due("seven", x.ill(3, 0), 0);
        c.due("ill of an empty bill", Check.told(NINE).ill(0, 0), NineActs.BAD);
    }

    private static void illLeastChange() {
        NineActs x = Check.billed("act 0 5 20;act 1 5 12;act 2 5 9;", "012");
        c.due("the row closes up", x.ill(1, 0), 0);
        c.due("order", x.ill(1, 1), 2);
        NineActs y = Check.billed("act 0 5 20;act 2 5 9;", "01");
        c.due("its value", x.ill(1, 2), y.worth(0));
        c.due("the bill stays", x.count(1), 3);
        // 0 and 2 are of a kind: without 1 they stand side by side. Two must change places.
        x = Check.billed("act 0 5 20;act 1 5 12;act 0 5 9;act 2 5 3;act 3 5 3;", "01234");
        c.due("two change", x.ill(1, 0), 2);
        // Of the changes of two that part 0 and 2 (0324, 0432, 4230) the last has the strong one
        // at the end: 1 of 3, heat 9; 9 of 7 tenths 6, heat 3; 3, heat 0; 20 twice.
        c.due("the greatest value", x.ill(1, 2), 50);
        c.due("its order", x.ill(1, 1), 4230);
        x = Check.billed("act 0 5 0;act 1 5 0;act 0 5 0;act 2 5 0;act 3 5 0;", "01234");
        x.tune(6, 0);
        c.due("of equals the first order", x.ill(1, 1), 324);
        x = Check.billed("act 0 5 0;act 1 5 0;act 0 5 0;", "012");
        c.due("none", x.ill(1, 0), NineActs.NONE);
        c.due("none", x.ill(1, 1), NineActs.NONE);
        c.due("none", x.ill(1, 2), NineActs.NONE);
    }

    private static void illBreak() {
        // 1 and 2 are of a kind, parted by the break behind 0 and 1.
        String acts = "act 0 5 20;act 1 5 12;act 1 5 9;act 3 5 9;";
        NineActs x = Check.billed(acts, "0123");
        x.rest(2);
        c.due("one ahead of the break is out", x.ill(0, 0), 0);
        NineActs y = Check.billed(acts, "123");
        y.rest(1);
        c.due("the break is one earlier", x.ill(0, 2), y.worth(0));
        c.due("one behind the break is out", x.ill(3, 0), 0);
        y = Check.billed(acts, "012");
        y.rest(2);
        c.due("the break stays where it is", x.ill(3, 2), y.worth(0));
        c.due("the break itself stays", x.count(2), 2);
        x = Check.billed(acts, "013");
        x.rest(2);
        y = Check.billed(acts, "01");
        c.due("no act is behind the break: none", x.ill(3, 2), y.worth(0));
        x.rest(1);
        y = Check.billed(acts, "13");
        c.due("no act is ahead of the break: none", x.ill(0, 2), y.worth(0));
    }

    private static void halves() {
        NineActs x = Check.told("act 0 1 10;act 1 1 9;act 2 1 8;act 3 1 3;act 0 1 1;");
        c.due("halves of none", x.halves(0), NineActs.STATE);
        c.due("halves(2)", x.halves(2), NineActs.BAD);
        c.due("halves(-1)", x.halves(-1), NineActs.BAD);
        x.place(3);
        c.due("halves of one", x.halves(0), NineActs.STATE);
        x.place(2);
        c.due("two: the hall of 2", x.halves(0), 4);
        c.due("8 and 3", x.halves(1), 5);
        x.place(1);
        // 1 with none or one other: 9 and 11, 12 and 8, 17 and 3.
        c.due("three: the hall of 1, alone", x.halves(0), 2);
        c.due("9 and 11", x.halves(1), 2);
        x.place(0);
        // 0 1: 19 and 11; 0 2: 18 and 12; 0 3: 13 and 17.
        c.due("four", x.halves(0), 9);
        c.due("13 and 17", x.halves(1), 4);
        x.place(4);
        // 0 and 4 are of a kind. 0 3: 13 and 18; 0 1: 19, 12; 0 2: 18, 13; 0 2 3: 21, 10 ..
        c.due("five, of several the least", x.halves(0), 5);
        c.due("18 and 13", x.halves(1), 5);
        x = Check.billed("act 0 1 5;act 1 1 5;act 2 1 5;act 3 1 5;", "3210");
        c.due("of several the least bits", x.halves(0), 3);
    }

    private static void halvesNone() {
        NineActs x = Check.billed("act 0 1 5;act 0 1 5;act 0 1 5;", "012");
        c.due("three of a kind", x.halves(0), NineActs.NONE);
        c.due("three of a kind, apart", x.halves(1), NineActs.NONE);
        x = Check.billed("act 0 1 5;act 0 1 9;", "10");
        c.due("two of a kind", x.halves(0), 1);
        c.due("5 and 9", x.halves(1), 4);
        x = Check.billed(NINE, "876543210");
        c.due("nine", x.halves(1), 1);
        c.due("nine: four with 0", x.halves(0), 15);
    }

    private static void tryoutRefused() {
        NineActs x = new NineActs();
        c.due("kind 6", x.tryout(6, 1, 1, 0), NineActs.BAD);
        c.due("kind -1", x.tryout(-1, 1, 1, 0), NineActs.BAD);
        c.due("minutes 0", x.tryout(0, 0, 1, 0), NineActs.BAD);
        c.due("minutes 31", x.tryout(0, 31, 1, 0), NineActs.BAD);
        c.due("strength -1", x.tryout(0, 1, -1, 0), NineActs.BAD);
        c.due("strength 31", x.tryout(0, 1, 31, 0), NineActs.BAD);
        c.due("what 2", x.tryout(0, 1, 1, 2), NineActs.BAD);
        c.due("what -1", x.tryout(0, 1, 1, -1), NineActs.BAD);
        c.due("on an empty bill", x.tryout(5, 30, 30, 0), 0);
        c.due("36 of 5 tenths, twice", x.tryout(5, 30, 30, 1), 36);
        c.due("no act came", x.count(0), 0);
        c.due("none is on the bill", x.count(1), 0);
        x.tune(1, 10);
        c.due("too long for close", x.tryout(0, 11, 1, 0), NineActs.NONE);
        c.due("too long for close", x.tryout(0, 11, 1, 1), NineActs.NONE);
    }

    private static void tryout() {
        NineActs x = Check.billed("act 0 5 20;act 1 5 20;", "01");
        // As a third: 12, 16, then 30 * 124 / 100 = 37 twice.
        c.due("last is best", x.tryout(2, 5, 30, 0), 2);
        c.due("its value", x.tryout(2, 5, 30, 1), 102);
        c.due("as strong as the others: anywhere, so first", x.tryout(2, 5, 20, 0), 0);
        c.due("its kind keeps it from 1", x.tryout(1, 5, 20, 0), 0);
        c.due("of two kinds", x.tryout(0, 5, 20, 0), 2);
        // A weak one is best where it harms least, and equals go to the least place.
        x = Check.billed("act 0 5 0;act 1 5 0;", "01");
        x.tune(6, 0);
        c.due("equals", x.tryout(2, 5, 0, 0), 0);
        // It is on the whole stage, without a set: what was struck ahead of it costs it a gap.
        x = Check.billed("act 0 5 20 set 0 3;act 1 5 20 front;", "01");
        c.due("a gap of 3 behind 0", x.tryout(2, 5, 30, 0), 2);
        x = Check.billed("act 0 5 20 set 0 9;", "0");
        c.due("a gap of 9 behind 0", x.tryout(2, 5, 30, 0), 0);
        x = Check.billed(NINE, "012345678");
        x.tune(6, 0);
        c.due("last of ten", x.tryout(5, 1, 30, 0), 9);
        x.tune(5, 9);
        c.due("too tired for that", x.tryout(5, 1, 30, 0), 2);
        c.due("nine are on the bill", x.count(1), 9);
    }

    private static void tryoutBreak() {
        // 0 and 1 are of a kind, parted by the break: the new one at 0 makes it one later; at 1 it
        // comes just behind the break.
        NineActs x = Check.billed("act 0 5 0 train 5;act 0 5 0;", "01");
        x.tune(6, 0);
        x.rest(1);
        c.due("not ahead of 0; its kind parted by the break", x.tryout(1, 5, 0, 0), 1);
        c.due("a kind that must be last", x.tryout(0, 5, 0, 0), NineActs.NONE);
        x = Check.billed("act 0 5 0;act 0 5 0;act 1 5 0 train 25;", "012");
        x.tune(6, 0);
        x.rest(1);
        // At 0 the break comes behind two: 0 and 1 stay parted, but 2 would miss its train.
        c.due("2 must catch a train", x.tryout(2, 5, 0, 0), 3);
        x.tune(2, 5);
        c.due("at 0", x.tryout(2, 5, 0, 0), 0);
        NineActs y = Check.billed("act 2 5 7;act 0 5 0;act 0 5 0;act 1 5 0 train 25;", "0123");
        y.tune(6, 0);
        y.tune(2, 5);
        y.rest(2);
        c.due("the break one later", y.staged(0), NineActs.NONE);
        c.due("value of a weak one", x.tryout(2, 5, 0, 1), 0);
        c.due("the break stays", x.count(2), 1);
    }
}
