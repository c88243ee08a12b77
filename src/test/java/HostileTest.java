import java.lang.reflect.InvocationTargetException;
import java.lang.reflect.Method;
import java.util.ArrayList;
import java.util.List;

/** Any arguments in any state: no call throws, and one that is refused changes nothing. */
public final class HostileTest {
    private static final int[] NUMBERS = {Integer.MIN_VALUE, -1000000, -400, -10, -9, -3, -2, -1, 0, 1, 2, 4, 5, 6, 7,
        8, 9, 10, 30, 31, 99, 100, 250, 400, 1000, 65536, Integer.MAX_VALUE};
    private static final String FULL_TEXT = "act 0 8 12 front sad;act 1 12 18 set 4 5 loud;act 2 10 15 set 6 3;"
            + "act 0 6 24 sad;act 3 15 9 set 9 9 train 60;act 4 7 20 front loud;act 5 1 1;act 5 30 30;act 4 9 9;"
            + "feud 0 3;feud 1 2;";
    private static final String[] ORDERS = {"-", "", "0", "31", "6543210", "76543210", "012345678"};
    private static final Check c = new Check();

    public static void main(String[] args) throws IllegalAccessException {
        for (String order : ORDERS) {
            for (Method method : NineActs.class.getDeclaredMethods()) {
                if (java.lang.reflect.Modifier.isPublic(method.getModifiers())) {
                    askAll(order, method);
                }
            }
        }
        c.end();
    }

    private static NineActs made(String order) {
        if (order.equals("-")) {
            return new NineActs();
        }
        NineActs x = Check.billed(FULL_TEXT, order);
        x.rest(order.length() / 2);
        x.keep(1);
        x.mark(3, 0, 7);
        x.family(3, 8);
        Check.write(x, "act 0 1 1");
        return x;
    }

    private static void askAll(String order, Method method) throws IllegalAccessException {
        int arity = method.getParameterCount();
        int rounds = arity == 0 ? 1 : arity == 1 ? NUMBERS.length : arity == 2 ? 729 : 3000;
        NineActs x = made(order);
        for (int round = 0; round < rounds; round++) {
            if (round % 300 == 299) {
                x = made(order);
            }
            List<Object> args = new ArrayList<>();
            int code = arity < 3 ? round : round * 7919;
            for (Class<?> type : method.getParameterTypes()) {
                int number = NUMBERS[code % NUMBERS.length];
                code /= NUMBERS.length;
                if (type == long.class) {
                    args.add((long) number << 20);
                } else {
                    args.add(number);
                }
            }
            ask(order, method, args, x);
        }
    }

    private static void ask(String order, Method method, List<Object> args, NineActs x)
            throws IllegalAccessException {
        String call = "bill " + order + ": " + method.getName() + args;
        String before = told(x);
        try {
            long got = ((Number) method.invoke(x, args.toArray())).longValue();
            boolean refused = got == NineActs.BAD || got == NineActs.STATE || got == NineActs.FULL
                    || got == NineActs.NO;
            boolean changes = !method.getName().equals("lot") && refused && !before.equals(told(x));
            c.due(call + " is refused and changes", changes ? 1 : 0, 0);
        } catch (InvocationTargetException e) {
            c.due(call + " throws " + e.getCause(), 1, 0);
        }
    }

    private static String told(NineActs x) {
        StringBuilder told = new StringBuilder();
        for (int k = 0; k < 5; k++) {
            told.append(x.count(k)).append(' ');
        }
        for (int p = 0; p < 9; p++) {
            told.append(x.on(p)).append(' ').append(x.act(p, 8)).append(' ');
        }
        int lot = x.lot(0);
        x.lot(lot);
        return told.append(lot).append(' ').append(x.trace()).append(' ').append(x.worth(0)).toString();
    }
}
