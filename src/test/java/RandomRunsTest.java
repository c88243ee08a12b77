import java.util.Random;

/** Random runs of calls, from fixed seeds, on the program and on the oracle beside it. */
public final class RandomRunsTest {
    private static final int RUNS = 900;
    private static final int CALLS = 512;

    private final Random random;
    private final int run;
    private final NineActs x = new NineActs();
    private final Oracle y = new Oracle();
    private int wrong = 0;

    private RandomRunsTest(int run) {
        this.run = run;
        this.random = new Random(run);
    }

    public static void main(String[] args) {
        int wrong = 0;
        for (int run = 0; run < RUNS && wrong < 20; run++) {
            RandomRunsTest test = new RandomRunsTest(run);
            test.go();
            wrong += test.wrong;
        }
        System.out.println(RUNS + " random runs, " + wrong + " wrong answers");
        if (wrong != 0) {
            System.exit(1);
        }
    }

    private void same(String call, long got, long want) {
        if (got != want) {
            wrong++;
            System.out.println("run " + run + ": " + call + " answered " + got + ", due is " + want);
        }
    }

    private int below(int n) {
        return random.nextInt(n);
    }

    /** Mostly 0 .. most, at times just outside, at times far away. */
    private int about(int most) {
        int k = below(40);
        if (k == 0) {
            return -1;
        }
        if (k == 1) {
            return most + 1;
        }
        if (k == 2) {
            return random.nextInt();
        }
        if (k == 3) {
            return random.nextBoolean() ? Integer.MIN_VALUE : Integer.MAX_VALUE;
        }
        return below(most + 1);
    }

    private void go() {
        int calls = write(text());
        same("acts()", x.acts(), y.acts());
        int acts = y.count(0);
        for (int i = 0; i < acts; i++) {
            if (below(3) > 0) {
                same("place", x.place(i), y.place(i));
            }
        }
        if (random.nextBoolean()) {
            same("tune", x.tune(0, 9), y.tune(0, 9));
        }
        // A bill of seven is dear for the oracle: few runs ask for the best of such again and again.
        int dear = 3;
        for (calls += 12; calls < CALLS && wrong < 20; calls++) {
            boolean asksBest = y.count(1) < 6 || dear > 0 && y.count(1) <= 7;
            int kind = below(asksBest ? 34 : 33);
            if (kind == 33 && y.count(1) >= 6) {
                dear--;
            }
            calls += ask(kind);
        }
        for (int k = 0; k < 5; k++) {
            same("count(" + k + ")", x.count(k), y.count(k));
        }
        same("trace()", x.trace(), y.trace());
    }

    private int ask(int kind) {
        int a = about(8);
        int b = about(8);
        if (kind < 8) {
            return askActs(kind, a, b);
        }
        if (kind < 17) {
            askBill(kind, a, b);
        } else if (kind < 25) {
            askMarks(kind, a, b);
        } else {
            askOthers(kind, a);
        }
        return 0;
    }

    private int askActs(int kind, int a, int b) {
        switch (kind) {
            case 0:
                if (below(12) > 0) {
                    return 0;
                }
                int typed = write(text());
                same("acts()", x.acts(), y.acts());
                return typed;
            case 1:
                if (below(12) > 0) {
                    return 0;
                }
                same("clear()", x.clear(), y.clear());
                return 0;
            case 2:
                same("act(" + a + ", " + b + ")", x.act(a, b), y.act(a, b));
                return 0;
            case 3:
                same("feud(" + a + ", " + b + ")", x.feud(a, b), y.feud(a, b));
                return 0;
            case 4:
            case 5:
                int what = about(7);
                int v = about(new int[] {9, 400, 30, 9, 10, 9, 99, 999, 9}[what < 0 || what > 7 ? 8 : what]);
                same("tune(" + what + ", " + v + ")", x.tune(what, v), y.tune(what, v));
                return 0;
            case 6:
                long bytes = random.nextLong();
                int n = below(20) > 0 ? 0 : about(8);
                same("type(" + bytes + ", " + n + ")", x.type(bytes, n), y.type(bytes, n));
                return 0;
            default:
                int families = about(99);
                same("family(" + a + ", " + families + ")", x.family(a, families), y.family(a, families));
                return 0;
        }
    }

    private void askBill(int kind, int a, int b) {
        switch (kind) {
            case 8:
            case 9:
            case 10:
                same("place(" + a + ")", x.place(a), y.place(a));
                break;
            case 11:
                if (below(15) == 0) {
                    same("empty()", x.empty(), y.empty());
                }
                break;
            case 12:
                same("rest(" + a + ")", x.rest(a), y.rest(a));
                break;
            case 13:
                same("on(" + a + ")", x.on(a), y.on(a));
                break;
            case 14:
                b = about(2);
                same("minute(" + a + ", " + b + ")", x.minute(a, b), y.minute(a, b));
                break;
            case 15:
                b = about(1);
                same("staged(" + b + ")", x.staged(b), y.staged(b));
                break;
            default:
                b = about(3);
                same("night(" + a + ", " + b + ")", x.night(a, b), y.night(a, b));
                same("worth(" + b + ")", x.worth(b), y.worth(b));
        }
    }

    private void askMarks(int kind, int a, int b) {
        switch (kind) {
            case 17:
            case 18:
                int claps = about(99);
                b = random.nextBoolean() ? 0 : b;
                same("mark(" + a + ", " + b + ", " + claps + ")", x.mark(a, b, claps), y.mark(a, b, claps));
                break;
            case 19:
                b = about(1);
                same("parted(" + a + ", " + b + ")", x.parted(a, b), y.parted(a, b));
                break;
            case 20:
                same("opener()", x.opener(), y.opener());
                break;
            case 21:
                b = about(1);
                if (y.count(1) < 8 || below(400) == 0) {
                    same("hold(" + b + ")", x.hold(b), y.hold(b));
                }
                break;
            case 22:
                same("drawn()", x.drawn(), y.drawn());
                break;
            case 23:
                int v = random.nextInt();
                if (below(3) == 0) {
                    same("lot(" + v + ")", x.lot(v), y.lot(v));
                }
                break;
            default:
                b = about(5);
                same("rate(" + b + ", " + a + ")", x.rate(b, a), y.rate(b, a));
        }
    }

    private void askOthers(int kind, int a) {
        int what = about(1);
        switch (kind) {
            case 25:
                same("keep(" + what + ")", x.keep(what), y.keep(what));
                break;
            case 26:
                same("back(" + what + ")", x.back(what), y.back(what));
                break;
            case 27:
                what = about(4);
                same("count(" + what + ")", x.count(what), y.count(what));
                same("trace()", x.trace(), y.trace());
                break;
            case 28:
                same("custom()", x.custom(), y.custom());
                break;
            case 29:
                same("when()", x.when(), y.when());
                break;
            case 30:
                what = about(2);
                if (y.count(1) < 7 || below(4) == 0) {
                    same("ill(" + a + ", " + what + ")", x.ill(a, what), y.ill(a, what));
                }
                break;
            case 31:
                same("halves(" + what + ")", x.halves(what), y.halves(what));
                break;
            case 32:
                int k = about(5);
                int m = about(30);
                int s = about(30);
                same("tryout(" + k + ", " + m + ", " + s + ", " + what + ")", x.tryout(k, m, s, what),
                        y.tryout(k, m, s, what));
                break;
            default:
                what = about(3);
                same("best(" + what + ")", x.best(what), y.best(what));
        }
    }

    // ---- texts

    private int write(String text) {
        int calls = 0;
        for (int from = 0; from < text.length();) {
            int n = Math.min(text.length() - from, 1 + below(8));
            long v = random.nextLong();
            v = n == 8 ? 0 : v << 8 * n;
            v |= Check.bytes(text.substring(from, from + n));
            same("type(" + v + ", " + n + ")", x.type(v, n), y.type(v, n));
            from += n;
            calls++;
        }
        return calls;
    }

    private String text() {
        StringBuilder text = new StringBuilder();
        int acts = 0;
        int items = 1 + below(13);
        boolean easy = random.nextBoolean();
        for (int k = 0; k < items; k++) {
            if (acts > 1 && below(4) == 0) {
                int one = below(acts);
                int other = below(30) == 0 ? one : (one + 1 + below(acts - 1)) % acts;
                text.append("feud ").append(one).append(' ').append(other).append(';');
            } else if (acts < 9 || below(20) == 0) {
                text.append(act(easy));
                acts++;
            }
            text.append("   ".substring(below(4)));
        }
        if (below(4) == 0) {
            mutate(text);
        }
        return text.toString();
    }

    private String act(boolean easy) {
        StringBuilder act = new StringBuilder("act ");
        act.append(below(6)).append(' ').append(1 + below(easy ? 12 : 30)).append(' ').append(below(31));
        int stage = below(3);
        if (stage == 0) {
            act.append("front");
        } else if (stage == 1) {
            act.append(" set ").append(below(easy ? 4 : 10)).append(' ').append(below(easy ? 4 : 10));
        }
        act.append(new String[] {"", " sad", " loud"}[below(3)]);
        if (below(easy ? 8 : 4) == 0) {
            act.append(" train ").append(1 + below(250));
        }
        return act.append(';').toString();
    }

    private void mutate(StringBuilder text) {
        int at = below(text.length());
        switch (below(4)) {
            case 0:
                text.deleteCharAt(at);
                break;
            case 1:
                text.setCharAt(at, (char) below(256));
                break;
            case 2:
                text.insert(at, " ;0129afst".charAt(below(10)));
                break;
            default:
                text.setLength(at);
        }
    }
}
