import java.util.function.Supplier;
import java.util.function.ToIntFunction;

/**
 * "Refused, and nothing changes, the first of these": each call that can be refused, in each state in
 * which it is, beside a twin that was not called: afterwards both tell the same of all they hold.
 */
public final class RefusedTest {
    private static final int BAD = NineActs.BAD;
    private static final int STATE = NineActs.STATE;
    private static final int FULL = NineActs.FULL;
    private static final int NO = NineActs.NO;
    private static final String NINE = "act 0 8 12 front sad;act 1 12 18 set 4 5 loud;act 2 10 15 set 6 3;"
            + "act 0 6 24 sad;act 3 15 9 set 9 9 train 60;act 4 7 20 front loud;act 5 1 1;act 5 30 30;act 4 9 9;"
            + "feud 0 3;feud 1 2;";
    private static final int LEAST = Integer.MIN_VALUE;
    private static final int MOST = Integer.MAX_VALUE;
    private static final Check c = new Check();

    private static Supplier<NineActs> state;
    private static String name;

    public static void main(String[] args) {
        c.says("Refused, and nothing changes, the first of these: BAD (a number is not as told, or there is no such"
                + " thing), STATE (as told), FULL.");
        in("a new object", NineActs::new);
        ofNothing();
        ofNumbers();
        in("nine acts, an empty bill", () -> rich(""));
        ofAnEmptyBill();
        ofNumbers();
        in("one on the bill", () -> rich("4"));
        ofOneOnTheBill();
        ofNumbers();
        in("seven on the bill", () -> rich("6543210"));
        ofSome("6543210");
        ofNumbers();
        in("eight on the bill", () -> rich("76543210"));
        ofMoreThanSeven();
        ofSome("76543210");
        ofNumbers();
        in("nine on the bill, and all that can be", RefusedTest::full);
        ofMoreThanSeven();
        ofSome("876543210");
        ofNumbers();
        ofAll();
        c.end();
    }

    private static NineActs rich(String order) {
        NineActs x = Check.billed(NINE, order);
        x.tune(0, 7);
        x.tune(4, 9);
        x.rest(order.length() - 1);
        x.lot(-5);
        x.keep(0);
        x.lot(77);
        for (int i = 0; i < 9; i++) {
            x.family(i, 11 * i);
            x.mark(i, i, 9 * i);
            x.mark(8 - i, i, 10 * i);
        }
        x.rate(4, 4);
        Check.write(x, "act 5 5 5");
        return x;
    }

    private static NineActs full() {
        NineActs x = rich("876543210");
        while (x.count(3) < 60) {
            x.mark(3, 3, 33);
        }
        x.keep(1);
        Check.write(x, ";act" + " ".repeat(387));
        return x;
    }

    private static void in(String what, Supplier<NineActs> made) {
        name = what;
        state = made;
    }

    private static void refused(String call, int due, ToIntFunction<NineActs> asked) {
        NineActs x = state.get();
        c.due(name + ": " + call, asked.applyAsInt(x), due);
        c.due(name + ": " + call + " again", asked.applyAsInt(x), due);
        boolean same = told(x).equals(told(state.get()));
        c.due(name + ": nothing changes by " + call, same ? 1 : 0, 1);
    }

    /** What is no number of the document's, in whatever state. */
    private static void ofNumbers() {
        for (int n : new int[] {LEAST, -1, 0, 9, MOST}) {
            refused("type(0, " + n + ")", BAD, x -> x.type(0, n));
        }
        for (int far : new int[] {LEAST, -1, 9, MOST}) {
            refused("act(" + far + ", 0)", BAD, x -> x.act(far, 0));
            refused("act(0, " + far + ")", BAD, x -> x.act(0, far));
            refused("feud(" + far + ", 0)", BAD, x -> x.feud(far, 0));
            refused("feud(0, " + far + ")", BAD, x -> x.feud(0, far));
            refused("tune(" + far + ", 10)", BAD, x -> x.tune(far, 10));
            refused("family(" + far + ", 0)", BAD, x -> x.family(far, 0));
            refused("place(" + far + ")", BAD, x -> x.place(far));
            refused("rest(" + far + ")", BAD, x -> x.rest(far));
            refused("on(" + far + ")", BAD, x -> x.on(far));
            refused("minute(" + far + ", 0)", BAD, x -> x.minute(far, 0));
            refused("minute(0, " + far + ")", BAD, x -> x.minute(0, far));
            refused("staged(" + far + ")", BAD, x -> x.staged(far));
            refused("night(" + far + ", 0)", BAD, x -> x.night(far, 0));
            refused("night(0, " + far + ")", BAD, x -> x.night(0, far));
            refused("worth(" + far + ")", BAD, x -> x.worth(far));
            refused("best(" + far + ")", BAD, x -> x.best(far));
            refused("ill(" + far + ", 0)", BAD, x -> x.ill(far, 0));
            refused("ill(4, " + far + ")", BAD, x -> x.ill(4, far));
            refused("halves(" + far + ")", BAD, x -> x.halves(far));
            refused("tryout(" + far + ", 1, 1, 0)", BAD, x -> x.tryout(far, 1, 1, 0));
            refused("tryout(0, 1, 1, " + far + ")", BAD, x -> x.tryout(0, 1, 1, far));
            refused("mark(" + far + ", 0, 0)", BAD, x -> x.mark(far, 0, 0));
            refused("mark(0, " + far + ", 0)", BAD, x -> x.mark(0, far, 0));
            refused("parted(" + far + ", 0)", NO, x -> x.parted(far, 0));
            refused("parted(0, " + far + ")", NO, x -> x.parted(0, far));
            refused("hold(" + far + ")", BAD, x -> x.hold(far));
            refused("rate(" + far + ", 0)", NO, x -> x.rate(far, 0));
            refused("rate(0, " + far + ")", NO, x -> x.rate(0, far));
            refused("keep(" + far + ")", BAD, x -> x.keep(far));
            refused("back(" + far + ")", BAD, x -> x.back(far));
            refused("count(" + far + ")", BAD, x -> x.count(far));
        }
        ofValues();
    }

    private static void ofValues() {
        int[] most = {9, 400, 30, 9, 10, 9, 99, 999};
        for (int k = 0; k < 8; k++) {
            int what = k;
            refused("tune(" + k + ", above)", BAD, x -> x.tune(what, most[what] + 1));
            refused("tune(" + k + ", below)", BAD, x -> x.tune(what, what == 1 ? 9 : -1));
            refused("tune(" + k + ", most)", BAD, x -> x.tune(what, MOST));
            refused("tune(" + k + ", least)", BAD, x -> x.tune(what, LEAST));
        }
        for (int v : new int[] {LEAST, -1, 100, MOST}) {
            refused("family(0, " + v + ")", BAD, x -> x.family(0, v));
            refused("mark(0, 0, " + v + ")", BAD, x -> x.mark(0, 0, v));
        }
        for (int v : new int[] {LEAST, -1, 31, MOST}) {
            refused("tryout(0, " + v + ", 1, 0)", BAD, x -> x.tryout(0, v, 1, 0));
            refused("tryout(0, 1, " + v + ", 0)", BAD, x -> x.tryout(0, 1, v, 0));
        }
        refused("tryout(0, 0, 1, 0)", BAD, x -> x.tryout(0, 0, 1, 0));
        refused("tryout(6, 1, 1, 0)", BAD, x -> x.tryout(6, 1, 1, 0));
        refused("feud(4, 4)", BAD, x -> x.feud(4, 4));
    }

    private static void ofNothing() {
        refused("act(0, 0)", BAD, x -> x.act(0, 0));
        refused("feud(0, 1)", BAD, x -> x.feud(0, 1));
        refused("family(0, 0)", BAD, x -> x.family(0, 0));
        refused("place(0)", BAD, x -> x.place(0));
        refused("mark(0, 0, 0)", BAD, x -> x.mark(0, 0, 0));
        refused("rate(0, 0)", NO, x -> x.rate(0, 0));
        refused("back(0)", STATE, x -> x.back(0));
        refused("back(1)", STATE, x -> x.back(1));
        ofAnEmptyBill();
    }

    private static void ofAnEmptyBill() {
        refused("rest(0)", BAD, x -> x.rest(0));
        refused("on(0)", BAD, x -> x.on(0));
        refused("minute(0, 0)", BAD, x -> x.minute(0, 0));
        refused("night(0, 0)", BAD, x -> x.night(0, 0));
        refused("ill(0, 0)", BAD, x -> x.ill(0, 0));
        refused("staged(0)", STATE, x -> x.staged(0));
        refused("worth(0)", STATE, x -> x.worth(0));
        refused("best(0)", STATE, x -> x.best(0));
        refused("best(3)", STATE, x -> x.best(3));
        refused("custom()", STATE, NineActs::custom);
        refused("when()", STATE, NineActs::when);
        refused("halves(0)", STATE, x -> x.halves(0));
        refused("hold(0)", STATE, x -> x.hold(0));
        refused("drawn()", STATE, NineActs::drawn);
        refused("back(1)", STATE, x -> x.back(1));
    }

    private static void ofOneOnTheBill() {
        refused("place(4)", STATE, x -> x.place(4));
        refused("rest(1)", BAD, x -> x.rest(1));
        refused("on(1)", BAD, x -> x.on(1));
        refused("ill(4, 0)", STATE, x -> x.ill(4, 0));
        refused("ill(0, 0)", BAD, x -> x.ill(0, 0));
        refused("halves(0)", STATE, x -> x.halves(0));
        refused("halves(1)", STATE, x -> x.halves(1));
        refused("back(1)", STATE, x -> x.back(1));
        // The text is "act 5 5 5".
        refused("acts()", -19, NineActs::acts);
    }

    private static void ofSome(String order) {
        int many = order.length();
        for (int k = 0; k < many; k++) {
            int i = order.charAt(k) - '0';
            refused("place(" + i + ")", STATE, x -> x.place(i));
        }
        refused("rest(" + many + ")", BAD, x -> x.rest(many));
        refused("on(" + many + ")", BAD, x -> x.on(many));
        refused("minute(" + many + ", 0)", BAD, x -> x.minute(many, 0));
        refused("night(" + many + ", 0)", BAD, x -> x.night(many, 0));
        if (many < 9) {
            refused("ill(8, 0)", BAD, x -> x.ill(8, 0));
        }
    }

    private static void ofMoreThanSeven() {
        for (int k = 0; k < 4; k++) {
            int what = k;
            refused("best(" + k + ")", STATE, x -> x.best(what));
        }
        for (int k = 0; k < 3; k++) {
            int what = k;
            refused("ill(4, " + k + ")", STATE, x -> x.ill(4, what));
        }
    }

    private static void ofAll() {
        for (int k = 1; k <= 8; k++) {
            int n = k;
            refused("type(0, " + k + ")", FULL, x -> x.type(0, n));
        }
        refused("mark(0, 0, 0)", FULL, x -> x.mark(0, 0, 0));
        refused("mark(8, 8, 99)", FULL, x -> x.mark(8, 8, 99));
        // The text ends behind a second "act".
        refused("acts()", -410, NineActs::acts);
    }

    // ---- all that an object tells; it is of no use afterwards

    private static String told(NineActs x) {
        StringBuilder told = new StringBuilder();
        tellActs(x, told);
        tellBill(x, told);
        for (int k = 0; k < 8; k++) {
            tell(told, x.tune(k, k == 1 ? 10 : 9));
        }
        tell(told, x.trace());
        for (int image = 0; image < 2; image++) {
            tell(told, x.back(image));
            tellBill(x, told);
        }
        tell(told, x.acts());
        tell(told, x.count(4));
        x.type(';', 1);
        tell(told, x.acts());
        tellActs(x, told);
        return told.toString();
    }

    private static void tell(StringBuilder told, long answer) {
        told.append(answer).append(' ');
    }

    private static void tellActs(NineActs x, StringBuilder told) {
        for (int k = 0; k < 5; k++) {
            tell(told, x.count(k));
        }
        for (int i = 0; i < x.count(0); i++) {
            for (int what = 0; what < 9; what++) {
                tell(told, x.act(i, what));
            }
            for (int j = 0; j < i; j++) {
                tell(told, x.feud(i, j));
            }
            tell(told, x.parted(i, 0));
            tell(told, x.parted(i, 1));
        }
        tell(told, x.opener());
    }

    private static void tellBill(NineActs x, StringBuilder told) {
        tell(told, x.count(2));
        for (int p = 0; p < x.count(1); p++) {
            tell(told, x.on(p));
            tell(told, x.minute(p, 2));
            tell(told, x.night(p, 1));
            tell(told, x.night(p, 3));
        }
        tell(told, x.staged(0));
        tell(told, x.staged(1));
        tell(told, x.worth(0));
        tell(told, x.custom());
        tell(told, x.when());
        tell(told, x.halves(0));
        tell(told, x.hold(1));
        tell(told, x.tryout(1, 2, 3, 1));
        int lot = x.lot(0);
        x.lot(lot);
        tell(told, lot);
        tell(told, x.drawn());
    }
}
