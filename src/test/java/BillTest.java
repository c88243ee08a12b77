/** Promises 9 to 16: the bill, its minutes, what fails, the house. */
public final class BillTest {
    private static final Check c = new Check();

    public static void main(String[] args) {
        place();
        empty();
        rest();
        minutes();
        gapsThatAreCovered();
        staged();
        stagedInItsOrder();
        nightPlain();
        nightTones();
        nightBreak();
        nightSeatsAndTired();
        nightPeople();
        worth();
        c.end();
    }

    private static void place() {
        NineActs x = Check.told("act 0 1 1;act 1 1 1;act 2 1 1;");
        c.due("place(3)", x.place(3), NineActs.BAD);
        c.due("place(-1)", x.place(-1), NineActs.BAD);
        c.due("place(2)", x.place(2), 1);
        c.due("place(2) again", x.place(2), NineActs.STATE);
        c.due("place(0)", x.place(0), 2);
        c.due("on(0)", x.on(0), 2);
        c.due("on(1)", x.on(1), 0);
        c.due("on(2)", x.on(2), NineActs.BAD);
        c.due("on(-1)", x.on(-1), NineActs.BAD);
        c.due("count(1)", x.count(1), 2);
    }

    private static void empty() {
        NineActs x = Check.billed("act 0 1 1;act 1 1 1;", "10");
        x.rest(1);
        c.due("empty", x.empty(), 2);
        c.due("no break", x.count(2), 0);
        c.due("none on it", x.on(0), NineActs.BAD);
        c.due("empty again", x.empty(), 0);
        c.due("place again", x.place(1), 1);
    }

    private static void rest() {
        NineActs x = Check.billed("act 0 1 1;act 1 1 1;act 2 1 1;", "");
        c.due("rest(0) of an empty bill", x.rest(0), NineActs.BAD);
        x.place(0);
        c.due("rest(0) of one", x.rest(0), 0);
        c.due("rest(1) of one", x.rest(1), NineActs.BAD);
        x.place(1);
        x.place(2);
        c.due("rest(2)", x.rest(2), 0);
        c.due("rest(3)", x.rest(3), NineActs.BAD);
        c.due("rest(-1)", x.rest(-1), NineActs.BAD);
        c.due("rest(1)", x.rest(1), 2);
        c.due("rest(0)", x.rest(0), 1);
        c.due("count(2)", x.count(2), 0);
    }

    private static void due(NineActs x, String what, int p, int gap, int start, int end) {
        c.due(what + " gap " + p, x.minute(p, 0), gap);
        c.due(what + " start " + p, x.minute(p, 1), start);
        c.due(what + " end " + p, x.minute(p, 2), end);
    }

    private static void minutes() {
        // The first waits for its own set; a front one has no gap but covers what comes.
        NineActs x = Check.billed("act 0 10 1 set 4 5;act 1 3 1 front;act 2 7 1 set 6 9;act 3 2 1;", "0123");
        due(x, "plain", 0, 4, 4, 14);
        due(x, "plain", 1, 0, 14, 17);
        due(x, "plain", 2, 8, 25, 32);
        due(x, "plain", 3, 9, 41, 43);
        x.rest(2);
        due(x, "break", 1, 0, 14, 17);
        due(x, "break", 2, 0, 27, 34);
        due(x, "break", 3, 9, 43, 45);
        c.due("minute(4, 0)", x.minute(4, 0), NineActs.BAD);
        c.due("minute(-1, 0)", x.minute(-1, 0), NineActs.BAD);
        c.due("minute(0, 3)", x.minute(0, 3), NineActs.BAD);
        c.due("minute(0, -1)", x.minute(0, -1), NineActs.BAD);
        c.due("minute of none", Check.told("act 0 1 1;").minute(0, 0), NineActs.BAD);
    }

    private static void gapsThatAreCovered() {
        // Front acts ahead of the first on the whole stage cover its set, all of them.
        NineActs x = Check.billed("act 0 2 1 front;act 1 3 1 front;act 2 5 1 set 9 9;act 3 1 1 set 9 9;", "0123");
        due(x, "first whole", 2, 4, 9, 14);
        due(x, "second whole", 3, 18, 32, 33);
        x.tune(2, 3);
        x.rest(1);
        due(x, "break ahead of the first whole", 1, 0, 5, 8);
        due(x, "break ahead of the first whole", 2, 1, 9, 14);
        due(x, "that break is not between these", 3, 18, 32, 33);
        x.rest(2);
        due(x, "break just ahead of the first whole", 2, 1, 9, 14);
        x.rest(3);
        due(x, "break behind the first whole", 2, 4, 9, 14);
        due(x, "break between both", 3, 15, 32, 33);
        // A front one behind a whole one that needs nothing: what it covers is not kept for later.
        x = Check.billed("act 0 9 1;act 1 9 1 front;act 2 9 1 set 1 7;act 3 9 1 set 2 0;", "0123");
        due(x, "covered", 2, 0, 18, 27);
        due(x, "not covered by what is past", 3, 9, 36, 45);
    }

    private static void staged() {
        NineActs x = Check.told("act 0 10 9 set 3 0;act 0 10 9;act 1 10 9 train 20;act 2 10 9;feud 1 3;");
        c.due("staged of none", x.staged(0), NineActs.STATE);
        c.due("staged(2) of none", x.staged(2), NineActs.BAD);
        c.due("staged(-1)", x.staged(-1), NineActs.BAD);
        x.place(0);
        c.due("gap 3 above 2", x.staged(0), 1);
        c.due("its place", x.staged(1), 0);
        x.tune(0, 3);
        c.due("gap 3 of 3", x.staged(0), NineActs.NONE);
        c.due("no place", x.staged(1), NineActs.NONE);
        x.place(1);
        c.due("kind", x.staged(0), 2);
        c.due("its place", x.staged(1), 1);
        x.rest(1);
        c.due("a break parts kinds", x.staged(0), NineActs.NONE);
        x.place(3);
        c.due("feud", x.staged(0), 3);
        c.due("its place", x.staged(1), 2);
        x.rest(2);
        x.empty();
        x.place(1);
        x.place(3);
        x.rest(1);
        c.due("a break does not part a feud", x.staged(0), 3);
        x.empty();
        x.place(1);
        x.place(2);
        c.due("off by its train", x.staged(0), NineActs.NONE);
        x.rest(1);
        c.due("behind its train", x.staged(0), 4);
        c.due("its place", x.staged(1), 1);
        x.rest(0);
        x.tune(1, 20);
        c.due("ends at close", x.staged(0), NineActs.NONE);
        x.tune(1, 19);
        c.due("ends behind close", x.staged(0), 5);
        c.due("the last one's place", x.staged(1), 1);
        x.tune(1, 10);
        x.place(3);
        c.due("the last one's place, though others are late", x.staged(1), 2);
    }

    private static void stagedInItsOrder() {
        // All five fail: the first rule counts, though others fail at lesser places.
        NineActs x = Check.billed(
                "act 0 30 9 train 1;act 0 30 9;act 1 30 9;act 2 30 9;act 3 1 1 set 9 0;feud 1 2;", "01234");
        x.tune(1, 10);
        c.due("1 of five", x.staged(0), 1);
        c.due("1 at", x.staged(1), 4);
        x.tune(0, 9);
        c.due("2 of four", x.staged(0), 2);
        c.due("2 at", x.staged(1), 1);
        x.rest(1);
        c.due("3 of three", x.staged(0), 3);
        c.due("3 at", x.staged(1), 2);
        x.empty();
        x.place(0);
        x.place(2);
        c.due("4 of two", x.staged(0), 4);
        c.due("4 at", x.staged(1), 0);
        x.empty();
        x.place(2);
        x.place(3);
        c.due("5 alone", x.staged(0), 5);
        c.due("5 at", x.staged(1), 1);
    }

    private static void due(NineActs x, String what, int p, int[] night) {
        for (int k = 0; k < 4; k++) {
            c.due(what + " night(" + p + ", " + k + ")", x.night(p, k), night[k]);
        }
    }

    private static void nightPlain() {
        // 20 * 120 / 100 = 24, of 5 tenths 12; 20 of 7 tenths: 24 * 7 / 10 = 16; then the whole.
        NineActs x = Check.billed("act 0 5 20;act 1 5 20;act 2 5 20;act 3 5 25 set 7 0;", "0123");
        due(x, "plain", 0, new int[] {20, 12, 20, 400});
        due(x, "plain", 1, new int[] {20, 16, 24, 400});
        due(x, "plain", 2, new int[] {24, 24, 36, 400});
        due(x, "a gap of 7 chills by 14", 3, new int[] {22, 30, 40, 400});
        x.tune(3, 9);
        due(x, "chilled to 0", 3, new int[] {0, 25, 13, 400});
        x.tune(6, 99);
        x.tune(3, 0);
        due(x, "hot", 0, new int[] {99, 19, 100, 400});
        due(x, "at most 100", 1, new int[] {100, 28, 100, 400});
        c.due("night(4, 0)", x.night(4, 0), NineActs.BAD);
        c.due("night(-1, 0)", x.night(-1, 0), NineActs.BAD);
        c.due("night(0, 4)", x.night(0, 4), NineActs.BAD);
        c.due("night(0, -1)", x.night(0, -1), NineActs.BAD);
    }

    private static void nightTones() {
        String acts = "act 0 5 20 sad;act 1 5 20 sad;act 2 5 20 loud;act 3 5 20 loud;act 4 5 20;act 5 5 20;";
        NineActs x = Check.billed(acts, "012345");
        c.due("sad behind none", x.night(0, 0), 20);
        c.due("sad behind sad: 20 less 10", x.night(1, 0), 10);
        c.due("its claps: 22 * 7 / 10", x.night(1, 1), 15);
        c.due("loud behind sad: 13 less 5", x.night(2, 0), 8);
        c.due("its claps", x.night(2, 1), 21);
        c.due("loud behind loud: 17 less 10", x.night(3, 0), 7);
        c.due("plain behind loud: 7 and 21 less 12", x.night(4, 0), 16);
        c.due("plain behind plain: 16 and 23 less 12", x.night(5, 0), 27);
        NineActs y = Check.billed(acts, "201");
        c.due("sad behind loud", y.night(1, 0), 20);
        y.tune(6, 3);
        y.tune(4, 0);
        c.due("no claps: 3 less 12 is 0", y.night(0, 2), 0);
        c.due("sad behind sad: 0 at least", y.night(2, 0), 0);
    }

    private static void nightBreak() {
        NineActs x = Check.billed("act 0 5 20 sad;act 1 5 20 sad;act 2 5 21 loud;act 3 5 20 set 7 0;", "0123");
        x.tune(6, 31);
        // 20 * 131 / 100 = 26, of 5 tenths 13: 32 behind it; ices 400 * 32 / 1000.
        x.rest(1);
        c.due("heat behind the first", x.night(0, 2), 32);
        c.due("ices", x.worth(1), 12);
        c.due("half of 32, tones are parted", x.night(1, 0), 16);
        x.rest(2);
        c.due("sad behind sad", x.night(1, 0), 22);
        c.due("behind it: 24 * 7 / 10 = 16", x.night(1, 2), 26);
        c.due("half of it, loud behind sad is parted", x.night(2, 0), 13);
        c.due("ices", x.worth(1), 10);
        x.rest(3);
        // 5 sad/loud: 26 - 5 = 21; 21 * 121 / 100 = 25; 34 behind; a break of 10 covers the gap.
        c.due("behind loud", x.night(2, 2), 34);
        c.due("half of 34, no chill", x.night(3, 0), 17);
        c.due("ices", x.worth(1), 13);
        x.tune(2, 4);
        c.due("half, then chilled for 3 minutes", x.night(3, 0), 11);
        x.tune(2, 0);
        c.due("a break of no minutes is one, too", x.night(3, 0), 3);
        x.rest(0);
        c.due("no ices without a break", x.worth(1), 0);
    }

    private static void nightSeatsAndTired() {
        StringBuilder acts = new StringBuilder();
        for (int k = 0; k < 9; k++) {
            acts.append("act ").append(k % 2).append(" 1 12;");
        }
        NineActs x = Check.billed(acts.toString(), "012345678");
        x.tune(6, 0);
        x.tune(4, 10);
        x.tune(5, 3);
        int[] claps = {12, 12, 12, 12, 12, 12, 9, 6, 3};
        for (int p = 0; p < 9; p++) {
            c.due("tired claps " + p, x.night(p, 1), claps[p]);
        }
        c.due("people: 400 less 8, less 19", x.worth(2), 373);
        x.tune(5, 9);
        c.due("claps are 0 at least", x.night(7, 1), 0);
        x.tune(4, 0);
        c.due("no seats", x.night(0, 1), 0);
        c.due("half of 0 and 10", x.night(1, 1), 6);
        x.tune(4, 7);
        c.due("12 * 7 / 10", x.night(0, 1), 8);
        c.due("half of 17 is 8: 12 * 8 / 10", x.night(1, 1), 9);
    }

    private static void nightPeople() {
        NineActs x = Check.billed("act 0 1 8;act 1 1 7;act 2 1 0;act 3 1 1;", "0123");
        x.tune(6, 0);
        x.tune(4, 10);
        x.tune(7, 99);
        c.due("8 claps: all stay", x.night(0, 3), 99);
        c.due("7 claps: 99 * 1 / 100 is none", x.night(1, 3), 99);
        c.due("0 claps: 99 * 8 / 100", x.night(2, 3), 92);
        c.due("1 clap: 92 * 7 / 100", x.night(3, 3), 86);
        c.due("at the end", x.worth(2), 86);
        x.tune(7, 0);
        c.due("nobody", x.worth(2), 0);
    }

    private static void worth() {
        NineActs x = Check.billed("act 0 5 20;act 1 5 20;act 2 5 20;", "");
        c.due("worth(0) of none", x.worth(0), NineActs.STATE);
        c.due("worth(4) of none", x.worth(4), NineActs.BAD);
        c.due("worth(-1)", x.worth(-1), NineActs.BAD);
        x.place(0);
        c.due("one: twice 12", x.worth(0), 24);
        x.place(1);
        x.place(2);
        c.due("12, 16, twice 24", x.worth(0), 76);
        c.due("ends", x.worth(3), 15);
        x.rest(2);
        // Behind the second heat is 24: ices 9; half is 12: 20 * 112 / 100 = 22.
        c.due("12, 16, twice 22, 9 ices", x.worth(0), 81);
        c.due("ices", x.worth(1), 9);
        c.due("ends a break later", x.worth(3), 25);
        c.due("all stay", x.worth(2), 400);
    }
}
