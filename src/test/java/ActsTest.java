/** Promises 1 to 8: a new object, the text, the acts, the tunes, the families. */
public final class ActsTest {
    private static final Check c = new Check();

    public static void main(String[] args) {
        newObject();
        type();
        clear();
        actsTold();
        blanks();
        faultsOfTokens();
        faultsOfPlaces();
        faultsOfEnds();
        faultChangesNothing();
        actsReadAnew();
        act();
        feud();
        tune();
        family();
        c.end();
    }

    private static void newObject() {
        NineActs x = new NineActs();
        for (int k = 0; k < 5; k++) {
            c.due("new: count(" + k + ")", x.count(k), 0);
        }
        int[] first = {2, 180, 10, 2, 5, 1, 20, 400};
        for (int k = 0; k < 8; k++) {
            c.due("new: tune(" + k + ")", x.tune(k, first[k]), first[k]);
        }
        c.due("new: lot", x.lot(1), 1);
        c.due("new: trace", x.trace(), 0);
        c.due("new: back(0)", x.back(0), NineActs.STATE);
        c.due("new: back(1)", x.back(1), NineActs.STATE);
        c.due("new: act(0, 0)", x.act(0, 0), NineActs.BAD);
        c.due("new: opener", x.opener(), NineActs.NONE);
    }

    private static void type() {
        NineActs x = new NineActs();
        c.due("type n 0", x.type(0, 0), NineActs.BAD);
        c.due("type n 9", x.type(0, 9), NineActs.BAD);
        c.due("type n least", x.type(0, Integer.MIN_VALUE), NineActs.BAD);
        c.due("type n most", x.type(0, Integer.MAX_VALUE), NineActs.BAD);
        c.due("type 1 of 8 bytes", x.type(Check.bytes("zzzzzzza"), 1), 1);
        c.due("type 3 of 8 bytes", x.type(Check.bytes("zzzzzct "), 3), 4);
        c.due("type 6", x.type(Check.bytes("2 3 4;"), 6), 10);
        c.due("acts of what was typed", x.acts(), 1);
        c.due("kind, highest byte first", x.act(0, 0), 2);
        c.due("strength", x.act(0, 2), 4);
        for (int k = 1; k <= 49; k++) {
            c.due("type 8", x.type(-1, 8), 8 * k);
        }
        c.due("type to 397", x.type(0, 5), 397);
        c.due("type 4 at 397", x.type(0, 4), NineActs.FULL);
        c.due("type 9 at 397: BAD ahead of FULL", x.type(0, 9), NineActs.BAD);
        c.due("nothing came", x.count(4), 397);
        c.due("type 3 at 397", x.type(0, 3), 400);
        c.due("type 1 at 400", x.type(0, 1), NineActs.FULL);
        c.due("count at 400", x.count(4), 400);
    }

    private static void clear() {
        NineActs x = new NineActs();
        c.due("clear of none", x.clear(), 0);
        Check.write(x, "act 0 1 1");
        c.due("clear of 9", x.clear(), 9);
        c.due("clear again", x.clear(), 0);
        c.due("count", x.count(4), 0);
        Check.write(x, "act 0 1 1;");
        c.due("only the new text", x.acts(), 1);
    }

    private static void actsTold() {
        c.due("no items", Check.fault(""), 0);
        c.due("one act", Check.fault("act 5 30 30 set 9 9 loud train 250;"), 1);
        c.due("least of all", Check.fault("act 0 1 0 set 0 0 sad train 1;"), 1);
        c.due("front alone", Check.fault("act 0 1 0 front;"), 1);
        c.due("tone alone", Check.fault("act 0 1 0 sad;"), 1);
        c.due("train alone", Check.fault("act 0 1 0 train 7;"), 1);
        c.due("front and train", Check.fault("act 0 1 0 front train 7;"), 1);
        c.due("feuds count", Check.fault("act 0 1 0;act 0 1 0;feud 0 1;feud 1 0;feud 0 1;"), 5);
        String nine = "act 0 1 1;act 0 1 1;act 0 1 1;act 0 1 1;act 0 1 1;act 0 1 1;act 0 1 1;act 0 1 1;act 0 1 1;";
        c.due("nine acts", Check.fault(nine), 9);
        c.due("nine acts and a feud", Check.fault(nine + "feud 8 0;"), 10);
        NineActs x = Check.told(nine);
        c.due("the text is empty then", x.count(4), 0);
        c.due("nine", x.count(0), 9);
        c.due("acts of no text: none", x.acts(), 0);
        c.due("none", x.count(0), 0);
    }

    private static void blanks() {
        c.due("only blanks", Check.fault("   "), 0);
        c.due("many blanks", Check.fault("  act   0  1 1   ;  act 1 1 1 ;  "), 2);
        c.due("as few as can be", Check.fault("act0 1 1front sad train9;act1 1 1set0 9loud;feud0 1;"), 3);
        c.due("number then word", Check.fault("act0 1 1train9;"), 1);
        c.due("no blank between words", Check.fault("act 0 1 1 frontsad;"), -10 - 10);
        c.due("no blank between numbers", Check.fault("act 0 11;"), -10 - 8);
        c.due("a tab is none", Check.fault("act\t0 1 1;"), -10 - 3);
        c.due("a new line is none", Check.fault("\nact 0 1 1;"), -10);
    }

    private static void faultsOfTokens() {
        c.due("a strange byte", Check.fault("act 0 1 1; ?"), -10 - 11);
        c.due("byte 0", Check.fault("\0"), -10);
        c.due("byte 255", Check.fault("act 0 1 1\u00ff;"), -10 - 9);
        c.due("byte 160", Check.fault("act\u00a00 1 1;"), -10 - 3);
        c.due("a capital", Check.fault("Act 0 1 1;"), -10);
        c.due("a capital behind letters", Check.fault("aCt 0 1 1;"), -10);
        c.due("a capital behind a word", Check.fault("actA 0 1 1;"), -10 - 3);
        c.due("a longer word", Check.fault("acts 0 1 1;"), -10);
        c.due("a word and z", Check.fault("actz 0 1 1;"), -10);
        c.due("a word and a", Check.fault("acta 0 1 1;"), -10);
        c.due("the sign behind z", Check.fault("act{ 0 1 1;"), -10 - 3);
        c.due("the sign ahead of a", Check.fault("act` 0 1 1;"), -10 - 3);
        c.due("the sign behind 9", Check.fault("act 0 1 1:"), -10 - 9);
        c.due("the sign ahead of 0", Check.fault("act 0 1 1/;"), -10 - 9);
        c.due("a shorter word", Check.fault("ac 0 1 1;"), -10);
        c.due("a longer tone", Check.fault("act 0 1 1 saddle;"), -10 - 10);
        c.due("251", Check.fault("act 0 251 1;"), -10 - 6);
        c.due("train 250", Check.fault("act 0 1 1 train 250;"), 1);
        c.due("train 251", Check.fault("act 0 1 1 train 251;"), -10 - 16);
        c.due("0 ahead", Check.fault("act 00 1 1;"), -10 - 4);
        c.due("0 ahead of train", Check.fault("act 0 1 1 train 07;"), -10 - 16);
        c.due("so large that it wraps", Check.fault("act 4294967296 1 1;"), -10 - 4);
        c.due("larger yet", Check.fault("act 18446744073709551617 1 1;"), -10 - 4);
        c.due("a sign", Check.fault("act -0 1 1;"), -10 - 4);
        c.due("figures of 400", Check.fault("act " + "9".repeat(396)), -10 - 4);
        c.due("the first of two faults", Check.fault("act 6 1 1;???"), -10 - 4);
    }

    private static void faultsOfPlaces() {
        c.due("a number first", Check.fault("1;"), -10);
        c.due("; first", Check.fault(" ;"), -11);
        c.due("front first", Check.fault("front;"), -10);
        c.due("kind 6", Check.fault("act 6 1 1;"), -10 - 4);
        c.due("long 0", Check.fault("act 0 0 1;"), -10 - 6);
        c.due("long 31", Check.fault("act 0 31 1;"), -10 - 6);
        c.due("strength 31", Check.fault("act 0 1 31;"), -10 - 8);
        c.due("set 10", Check.fault("act 0 1 1 set 10 0;"), -10 - 14);
        c.due("strike 10", Check.fault("act 0 1 1 set 0 10;"), -10 - 16);
        c.due("train 0", Check.fault("act 0 1 1 train 0;"), -10 - 16);
        c.due("a fourth number", Check.fault("act 0 1 1 1;"), -10 - 10);
        c.due("a third of set", Check.fault("act 0 1 1 set 1 1 1;"), -10 - 18);
        c.due("a number behind front", Check.fault("act 0 1 1 front 1;"), -10 - 16);
        c.due("a second train", Check.fault("act 0 1 1 train 1 train 1;"), -10 - 18);
        c.due("; too early", Check.fault("act 0 1;"), -10 - 7);
        c.due("; behind set", Check.fault("act 0 1 1 set;"), -10 - 13);
        c.due("; behind train", Check.fault("act 0 1 1 train;"), -10 - 15);
        c.due("front, then set", Check.fault("act 0 1 1 front set 1 1;"), -10 - 16);
        c.due("set, then front", Check.fault("act 0 1 1 set 1 1 front;"), -10 - 18);
        c.due("sad, then front", Check.fault("act 0 1 1 sad front;"), -10 - 14);
        c.due("sad, then loud", Check.fault("act 0 1 1 sad loud;"), -10 - 14);
        c.due("train, then sad", Check.fault("act 0 1 1 train 1 sad;"), -10 - 18);
        c.due("train first", Check.fault("act 0 1 1;act 0 1 1;train 0 1;"), -10 - 20);
        c.due("feud in an act", Check.fault("act 0 1 1 feud 5;"), -10 - 10);
        c.due("set for a tone", Check.fault("act 0 1 1 front set;"), -10 - 16);
        c.due("loud for a stage", Check.fault("act 0 1 1 loud 1 1;"), -10 - 15);
        c.due("a word for a number", Check.fault("act act 1 1;"), -10 - 4);
        c.due("; for a number", Check.fault("act ;"), -10 - 4);
        c.due("act in an act", Check.fault("act 0 1 1 act 0 1 1;"), -10 - 10);
        c.due("two ;", Check.fault("act 0 1 1;;"), -10 - 10);
        c.due("feud of none", Check.fault("feud 0 1;"), -10 - 5);
        c.due("feud ahead of its act", Check.fault("act 0 1 1;feud 0 1;act 0 1 1;"), -10 - 17);
        c.due("feud of A that was not told", Check.fault("act 0 1 1;feud 1 0;"), -10 - 15);
        c.due("feud with itself", Check.fault("act 0 1 1;act 0 1 1;feud 1 1;"), -10 - 27);
        c.due("feud of three", Check.fault("act 0 1 1;act 0 1 1;feud 1 0 1;"), -10 - 29);
        String ten = "act 0 1 1;".repeat(10);
        c.due("a tenth act", Check.fault(ten), -10 - 90);
        c.due("a tenth act that is no act", Check.fault("act 0 1 1;".repeat(9) + "act ?"), -10 - 90);
    }

    private static void faultsOfEnds() {
        c.due("ends behind act", Check.fault("act"), -10 - 3);
        c.due("ends in blanks", Check.fault("act 0 1   "), -10 - 10);
        c.due("ends ahead of ;", Check.fault("act 0 1 1"), -10 - 9);
        c.due("ends ahead of ; in blanks", Check.fault("act 0 1 1 "), -10 - 10);
        c.due("ends behind set", Check.fault("act 0 1 1 set 1"), -10 - 15);
        c.due("ends behind train", Check.fault("act 0 1 1 train"), -10 - 15);
        c.due("ends behind feud", Check.fault("feud"), -10 - 4);
        c.due("ends in a feud", Check.fault("act 0 1 1;act 0 1 1;feud 0"), -10 - 26);
        c.due("a text of 400 that ends too early", Check.fault("act" + " ".repeat(397)), -410);
        c.due("a text of 400", Check.fault(" ".repeat(390) + "act 0 1 1;"), 1);
    }

    private static NineActs richBill() {
        NineActs x = Check.billed("act 0 5 10 sad;act 1 6 11;feud 0 1;", "10");
        x.rest(1);
        x.family(0, 7);
        x.mark(0, 0, 5);
        x.keep(0);
        x.keep(1);
        x.tune(4, 9);
        x.lot(77);
        x.rate(0, 0);
        return x;
    }

    private static void faultChangesNothing() {
        NineActs x = richBill();
        Check.write(x, "act 3 3 3;act 4 4 4;act 9");
        c.due("fault", x.acts(), -10 - 24);
        c.due("fault again", x.acts(), -10 - 24);
        c.due("the text stays", x.count(4), 25);
        c.due("acts stay", x.count(0), 2);
        c.due("kind stays", x.act(0, 0), 0);
        c.due("family stays", x.act(0, 8), 7);
        c.due("feud stays", x.feud(0, 1), 1);
        c.due("bill stays", x.on(0), 1);
        c.due("break stays", x.count(2), 1);
        c.due("marks stay", x.count(3), 1);
        c.due("images stay", x.back(1), 2);
    }

    private static void actsReadAnew() {
        NineActs x = richBill();
        Check.write(x, "act 3 3 3;act 4 4 4;act 5 5 5;");
        c.due("anew", x.acts(), 3);
        c.due("acts", x.count(0), 3);
        c.due("bill", x.count(1), 0);
        c.due("break", x.count(2), 0);
        c.due("marks", x.count(3), 0);
        c.due("parted", x.parted(0, 0), NineActs.NO);
        c.due("families", x.act(0, 8), 0);
        c.due("tone", x.act(0, 6), 0);
        c.due("feuds", x.feud(0, 1), 0);
        c.due("image 0", x.back(0), NineActs.STATE);
        c.due("image 1", x.back(1), NineActs.STATE);
        c.due("tune stays", x.tune(4, 5), 9);
        c.due("lot stays", x.lot(1), 77);
        c.due("trace goes on", x.trace(), 1);
        c.due("the first is placed again", x.place(0), 1);
    }

    private static void act() {
        NineActs x = Check.told("act 1 2 3;act 5 30 29 front loud train 250;act 4 20 0 set 8 9 sad train 1;");
        int[][] due = {{1, 2, 3, 0, 0, 0, 0, 0, 0}, {5, 30, 29, 1, 0, 0, 2, 250, 0}, {4, 20, 0, 0, 8, 9, 1, 1, 0}};
        for (int i = 0; i < 3; i++) {
            for (int what = 0; what < 9; what++) {
                c.due("act(" + i + ", " + what + ")", x.act(i, what), due[i][what]);
            }
        }
        c.due("act(3, 0)", x.act(3, 0), NineActs.BAD);
        c.due("act(-1, 0)", x.act(-1, 0), NineActs.BAD);
        c.due("act(0, 9)", x.act(0, 9), NineActs.BAD);
        c.due("act(0, -1)", x.act(0, -1), NineActs.BAD);
    }

    private static void feud() {
        NineActs x = Check.told("act 0 1 1;act 0 1 1;act 0 1 1;feud 2 0;");
        c.due("feud(0, 2)", x.feud(0, 2), 1);
        c.due("feud(2, 0)", x.feud(2, 0), 1);
        c.due("feud(0, 1)", x.feud(0, 1), 0);
        c.due("feud(1, 2)", x.feud(1, 2), 0);
        c.due("feud(1, 1)", x.feud(1, 1), NineActs.BAD);
        c.due("feud(0, 3)", x.feud(0, 3), NineActs.BAD);
        c.due("feud(3, 0)", x.feud(3, 0), NineActs.BAD);
        c.due("feud(-1, 0)", x.feud(-1, 0), NineActs.BAD);
        c.due("feud(0, -1)", x.feud(0, -1), NineActs.BAD);
    }

    private static void tune() {
        int[] least = {0, 10, 0, 0, 0, 0, 0, 0};
        int[] most = {9, 400, 30, 9, 10, 9, 99, 999};
        int[] first = {2, 180, 10, 2, 5, 1, 20, 400};
        NineActs x = new NineActs();
        for (int k = 0; k < 8; k++) {
            c.due("tune below " + k, x.tune(k, least[k] - 1), NineActs.BAD);
            c.due("tune above " + k, x.tune(k, most[k] + 1), NineActs.BAD);
            c.due("tune least " + k, x.tune(k, least[k]), first[k]);
            c.due("tune most " + k, x.tune(k, most[k]), least[k]);
            c.due("tune was most " + k, x.tune(k, most[k]), most[k]);
        }
        c.due("tune(8, 1)", x.tune(8, 1), NineActs.BAD);
        c.due("tune(-1, 1)", x.tune(-1, 1), NineActs.BAD);
    }

    private static void family() {
        NineActs x = Check.told("act 0 1 1;act 0 1 1;");
        c.due("family(1, 99)", x.family(1, 99), 0);
        c.due("family(1, 0)", x.family(1, 0), 99);
        c.due("family(0, 100)", x.family(0, 100), NineActs.BAD);
        c.due("family(0, -1)", x.family(0, -1), NineActs.BAD);
        c.due("family(2, 1)", x.family(2, 1), NineActs.BAD);
        c.due("family(-1, 1)", x.family(-1, 1), NineActs.BAD);
        c.due("nothing changed", x.act(0, 8), 0);
        x.family(0, 5);
        x.empty();
        c.due("stays behind empty", x.act(0, 8), 5);
    }
}
