import java.util.ArrayList;
import java.util.Arrays;
import java.util.List;
import java.util.regex.Matcher;
import java.util.regex.Pattern;

/**
 * The document once more, told by its definitions and without any care for speed: rows are looked
 * through from their start at each question, and the best of something is the best of all.
 */
final class Oracle {
    static final int BAD = -1, STATE = -2, FULL = -3, NONE = -9, NO = -1000000;
    private static final Pattern TOKEN = Pattern.compile("[a-z]+|[0-9]+|.", Pattern.DOTALL);
    private static final List<String> WORDS =
            List.of("act", "front", "set", "sad", "loud", "train", "feud", ";");
    private static final int[][] TUNES = {
        {0, 9, 2}, {10, 400, 180}, {0, 30, 10}, {0, 9, 2}, {0, 10, 5}, {0, 9, 1}, {0, 99, 20}, {0, 999, 400}};

    record Act(int kind, int minutes, int strength, boolean front, int set, int strike, int tone, int train) {}

    record Mark(int act, int place, int claps) {}

    record Image(List<Integer> bill, int pause, int lot) {}

    /** A row of acts (by number; -1 is the one that is tried out), its break and its draws. */
    private final class Row {
        final List<Integer> order;
        final int pause;
        final int[] luck;
        Act guest;

        Row(List<Integer> order, int pause) {
            this.order = order;
            this.pause = pause;
            this.luck = new int[order.size()];
        }

        Act at(int p) {
            return order.get(p) < 0 ? guest : acts.get(order.get(p));
        }

        int gap(int p) {
            if (at(p).front) {
                return 0;
            }
            int last = p - 1;
            while (last >= 0 && at(last).front) {
                last--;
            }
            int gap = at(p).set + (last >= 0 ? at(last).strike : 0);
            for (int q = last + 1; q < p; q++) {
                gap -= at(q).minutes;
            }
            if (pause > 0 && pause > last && pause <= p) {
                gap -= tunes[2];
            }
            return Math.max(gap, 0);
        }

        int start(int p) {
            return (p == 0 ? 0 : end(p - 1)) + (pause > 0 && pause == p ? tunes[2] : 0) + gap(p);
        }

        int end(int p) {
            return start(p) + at(p).minutes;
        }

        boolean apart(int p) {
            return pause > 0 && pause == p;
        }

        int[] failure() {
            int size = order.size();
            for (int p = 0; p < size; p++) {
                if (gap(p) > tunes[0]) {
                    return new int[] {1, p};
                }
            }
            for (int p = 1; p < size; p++) {
                if (!apart(p) && at(p).kind == at(p - 1).kind) {
                    return new int[] {2, p};
                }
            }
            for (int p = 1; p < size; p++) {
                if (order.get(p) >= 0 && order.get(p - 1) >= 0 && feuds[order.get(p)][order.get(p - 1)]) {
                    return new int[] {3, p};
                }
            }
            for (int p = 0; p < size; p++) {
                if (at(p).train != 0 && end(p) > at(p).train) {
                    return new int[] {4, p};
                }
            }
            return end(size - 1) > tunes[1] ? new int[] {5, size - 1} : new int[] {NONE, NONE};
        }

        boolean staged() {
            return failure()[0] == NONE;
        }

        /** Per place heat, claps, heat behind, people; in a last row value and ices. */
        int[][] house() {
            int size = order.size();
            int[][] told = new int[size + 1][4];
            int heat = tunes[6];
            int people = tunes[7];
            int ices = 0;
            int sum = 0;
            for (int p = 0; p < size; p++) {
                if (apart(p)) {
                    ices = people * heat / 1000;
                    heat /= 2;
                }
                heat = Math.max(0, heat - tunes[3] * gap(p));
                if (p > 0 && !apart(p)) {
                    int mine = at(p).tone;
                    int ahead = at(p - 1).tone;
                    if (mine > 0 && mine == ahead) {
                        heat -= 10;
                    }
                    if (mine == 2 && ahead == 1) {
                        heat -= 5;
                    }
                    heat = Math.max(0, heat);
                }
                int seats = p == 0 ? tunes[4] : p == 1 ? (tunes[4] + 10) / 2 : 10;
                int claps = at(p).strength * (100 + heat) / 100 * seats / 10;
                for (int q = 6; q <= p; q++) {
                    claps -= tunes[5];
                }
                claps = Math.max(0, Math.max(0, claps) + luck[p]);
                told[p][0] = heat;
                told[p][1] = claps;
                heat = Math.min(100, Math.max(0, heat + claps - 12));
                if (claps < 8) {
                    people -= people * (8 - claps) / 100;
                }
                told[p][2] = heat;
                told[p][3] = people;
                sum += claps;
            }
            told[size][0] = sum + told[size - 1][1] + ices;
            told[size][1] = ices;
            return told;
        }

        int value() {
            return house()[order.size()][0];
        }
    }

    private final StringBuilder text = new StringBuilder();
    private List<Act> acts = new ArrayList<>();
    private boolean[][] feuds = new boolean[9][9];
    private final int[] tunes = new int[8];
    private final int[] families = new int[9];
    private List<Integer> bill = new ArrayList<>();
    private int pause = 0;
    private int lot = 1;
    private final List<Mark> marks = new ArrayList<>();
    private final Image[] images = new Image[2];
    private long trace = 0;

    Oracle() {
        for (int k = 0; k < 8; k++) {
            tunes[k] = TUNES[k][2];
        }
    }

    int type(long v, int n) {
        if (n < 1 || n > 8) {
            return BAD;
        }
        if (text.length() + n > 400) {
            return FULL;
        }
        for (int k = n; k > 0; k--) {
            text.append((char) (v >> 8 * (k - 1) & 0xff));
        }
        return text.length();
    }

    int clear() {
        int had = text.length();
        text.setLength(0);
        return had;
    }

    // ---- the reading: tokens with their places, and a cursor

    private final List<String> tokens = new ArrayList<>();
    private final List<Integer> places = new ArrayList<>();
    private int cursor;

    private String peek() {
        return cursor < tokens.size() ? tokens.get(cursor) : "";
    }

    private boolean next(String word) {
        if (!peek().equals(word)) {
            return false;
        }
        cursor++;
        return true;
    }

    /** The number at the cursor if it may stand there, else -1. */
    private int number(int least, int most, int not) {
        if (!peek().matches("0|[1-9][0-9]{0,2}")) {
            return -1;
        }
        int v = Integer.parseInt(peek());
        if (v < least || v > most || v == not) {
            return -1;
        }
        cursor++;
        return v;
    }

    private boolean readAct(List<Act> told) {
        int kind = number(0, 5, -1);
        int minutes = kind < 0 ? -1 : number(1, 30, -1);
        int strength = minutes < 0 ? -1 : number(0, 30, -1);
        if (strength < 0) {
            return false;
        }
        boolean front = next("front");
        int set = 0;
        int strike = 0;
        if (!front && next("set")) {
            set = number(0, 9, -1);
            strike = set < 0 ? -1 : number(0, 9, -1);
            if (strike < 0) {
                return false;
            }
        }
        int tone = next("sad") ? 1 : next("loud") ? 2 : 0;
        int train = 0;
        if (next("train")) {
            train = number(1, 250, -1);
            if (train < 0) {
                return false;
            }
        }
        if (!next(";")) {
            return false;
        }
        told.add(new Act(kind, minutes, strength, front, set, strike, tone, train));
        return true;
    }

    int acts() {
        tokens.clear();
        places.clear();
        cursor = 0;
        Matcher matcher = TOKEN.matcher(text);
        while (matcher.find()) {
            if (!matcher.group().equals(" ")) {
                tokens.add(matcher.group());
                places.add(matcher.start());
            }
        }
        List<Act> told = new ArrayList<>();
        boolean[][] fights = new boolean[9][9];
        int items = 0;
        while (cursor < tokens.size()) {
            boolean good;
            if (told.size() < 9 && next("act")) {
                good = readAct(told);
            } else if (next("feud")) {
                int a = number(0, told.size() - 1, -1);
                int b = a < 0 ? -1 : number(0, told.size() - 1, a);
                good = b >= 0 && next(";");
                if (good) {
                    fights[a][b] = true;
                    fights[b][a] = true;
                }
            } else {
                good = false;
            }
            if (!good) {
                return -10 - (cursor < tokens.size() ? places.get(cursor) : text.length());
            }
            items++;
        }
        acts = told;
        feuds = fights;
        text.setLength(0);
        bill = new ArrayList<>();
        pause = 0;
        Arrays.fill(families, 0);
        marks.clear();
        Arrays.fill(images, null);
        return items;
    }

    int act(int i, int what) {
        if (i < 0 || i >= acts.size() || what < 0 || what > 8) {
            return BAD;
        }
        Act a = acts.get(i);
        return new int[] {a.kind, a.minutes, a.strength, a.front ? 1 : 0, a.set, a.strike, a.tone, a.train,
            families[i]}[what];
    }

    int feud(int i, int j) {
        if (i < 0 || i >= acts.size() || j < 0 || j >= acts.size() || i == j) {
            return BAD;
        }
        return feuds[i][j] ? 1 : 0;
    }

    int tune(int what, int v) {
        if (what < 0 || what > 7 || v < TUNES[what][0] || v > TUNES[what][1]) {
            return BAD;
        }
        int old = tunes[what];
        tunes[what] = v;
        return old;
    }

    int family(int i, int v) {
        if (i < 0 || i >= acts.size() || v < 0 || v > 99) {
            return BAD;
        }
        int old = families[i];
        families[i] = v;
        return old;
    }

    // ---- the bill

    private Row row() {
        return new Row(bill, pause);
    }

    int place(int i) {
        if (i < 0 || i >= acts.size()) {
            return BAD;
        }
        if (bill.contains(i)) {
            return STATE;
        }
        bill.add(i);
        return bill.size();
    }

    int empty() {
        int had = bill.size();
        bill.clear();
        pause = 0;
        return had;
    }

    int rest(int b) {
        if (b < 0 || b > bill.size() - 1) {
            return BAD;
        }
        int old = pause;
        pause = b;
        return old;
    }

    int on(int p) {
        return p < 0 || p >= bill.size() ? BAD : bill.get(p);
    }

    int minute(int p, int what) {
        if (p < 0 || p >= bill.size() || what < 0 || what > 2) {
            return BAD;
        }
        return what == 0 ? row().gap(p) : what == 1 ? row().start(p) : row().end(p);
    }

    int staged(int what) {
        if (what < 0 || what > 1) {
            return BAD;
        }
        return bill.isEmpty() ? STATE : row().failure()[what];
    }

    int night(int p, int what) {
        if (p < 0 || p >= bill.size() || what < 0 || what > 3) {
            return BAD;
        }
        return row().house()[p][what];
    }

    int worth(int what) {
        if (what < 0 || what > 3) {
            return BAD;
        }
        int size = bill.size();
        if (size == 0) {
            return STATE;
        }
        int[][] house = row().house();
        return what < 2 ? house[size][what] : what == 2 ? house[size - 1][3] : row().end(size - 1);
    }

    // ---- other bills

    private static void permute(List<Integer> left, List<Integer> head, List<List<Integer>> all) {
        if (left.isEmpty()) {
            all.add(new ArrayList<>(head));
        }
        for (int k = 0; k < left.size(); k++) {
            List<Integer> others = new ArrayList<>(left);
            head.add(others.remove(k));
            permute(others, head, all);
            head.remove(head.size() - 1);
        }
    }

    private static List<List<Integer>> orders(List<Integer> of) {
        List<Integer> sorted = new ArrayList<>(of);
        sorted.sort(null);
        List<List<Integer>> all = new ArrayList<>();
        permute(sorted, new ArrayList<>(), all);
        return all;
    }

    private static int figures(List<Integer> order) {
        int n = 0;
        for (int i : order) {
            n = 10 * n + i;
        }
        return n;
    }

    int best(int what) {
        if (what < 0 || what > 3) {
            return BAD;
        }
        if (bill.isEmpty() || bill.size() > 7) {
            return STATE;
        }
        int many = 0;
        int[] best = {NONE, NONE, NONE};
        for (List<Integer> order : orders(bill)) {
            for (int b = 0; b < order.size(); b++) {
                Row row = new Row(order, b);
                if (row.staged()) {
                    int value = row.value();
                    if (many == 0 || value > best[0]) {
                        best = new int[] {value, figures(order), b};
                    }
                    many++;
                }
            }
        }
        return what == 3 ? many : best[what];
    }

    int custom() {
        if (bill.isEmpty()) {
            return STATE;
        }
        List<Integer> order = new ArrayList<>(bill);
        order.sort((a, b) -> acts.get(a).strength != acts.get(b).strength
                ? acts.get(a).strength - acts.get(b).strength : a - b);
        int strongest = order.remove(order.size() - 1);
        order.add(Math.max(0, order.size() - 1), strongest);
        return new Row(order, pause).value();
    }

    int when() {
        if (bill.isEmpty()) {
            return STATE;
        }
        int best = NONE;
        for (int b = bill.size() - 1; b >= 0; b--) {
            Row row = new Row(bill, b);
            if (row.staged() && (best == NONE || row.value() >= new Row(bill, best).value())) {
                best = b;
            }
        }
        return best;
    }

    int ill(int i, int what) {
        if (!bill.contains(i) || what < 0 || what > 2) {
            return BAD;
        }
        if (bill.size() > 7 || bill.size() == 1) {
            return STATE;
        }
        List<Integer> closed = new ArrayList<>(bill);
        int was = closed.indexOf(i);
        closed.remove(was);
        int b = pause;
        if (was < b) {
            b--;
        }
        if (b == closed.size()) {
            b = 0;
        }
        int[] best = null;
        for (List<Integer> order : orders(closed)) {
            Row row = new Row(order, b);
            if (!row.staged()) {
                continue;
            }
            int moved = 0;
            for (int p = 0; p < order.size(); p++) {
                if (!order.get(p).equals(closed.get(p))) {
                    moved++;
                }
            }
            int value = row.value();
            if (best == null || moved < best[0] || moved == best[0] && value > best[2]) {
                best = new int[] {moved, figures(order), value};
            }
        }
        return best == null ? NONE : best[what];
    }

    int halves(int what) {
        if (what < 0 || what > 1) {
            return BAD;
        }
        if (bill.size() < 2) {
            return STATE;
        }
        int least = bill.stream().min(Integer::compare).get();
        int best = NONE;
        int apart = 0;
        for (int bits = 0; bits < 512; bits++) {
            int[] many = new int[2];
            int[] strength = new int[2];
            int[][] kinds = new int[2][6];
            boolean good = (bits >> least & 1) == 1;
            int rest = bits;
            for (int i : bill) {
                int hall = bits >> i & 1;
                rest &= ~(1 << i);
                many[hall]++;
                strength[hall] += acts.get(i).strength;
                good &= ++kinds[hall][acts.get(i).kind] == 1;
            }
            int difference = Math.abs(strength[0] - strength[1]);
            if (good && rest == 0 && Math.abs(many[0] - many[1]) <= 1 && (best == NONE || difference < apart)) {
                best = bits;
                apart = difference;
            }
        }
        return best == NONE ? NONE : what == 0 ? best : apart;
    }

    int tryout(int kind, int minutes, int strength, int what) {
        if (kind < 0 || kind > 5 || minutes < 1 || minutes > 30 || strength < 0 || strength > 30 || what < 0
                || what > 1) {
            return BAD;
        }
        int best = NONE;
        int most = NONE;
        for (int p = 0; p <= bill.size(); p++) {
            List<Integer> order = new ArrayList<>(bill);
            order.add(p, -1);
            Row row = new Row(order, pause > p ? pause + 1 : pause);
            row.guest = new Act(kind, minutes, strength, false, 0, 0, 0, 0);
            if (row.staged() && (best == NONE || row.value() > most)) {
                best = p;
                most = row.value();
            }
        }
        return what == 0 ? best : most;
    }

    // ---- marks, families, draws

    int mark(int i, int p, int claps) {
        if (i < 0 || i >= acts.size() || p < 0 || p > 8 || claps < 0 || claps > 99) {
            return BAD;
        }
        if (marks.size() == 60) {
            return FULL;
        }
        marks.add(new Mark(i, p, claps));
        return marks.size();
    }

    private static long gcd(long a, long b) {
        return b == 0 ? a : gcd(b, a % b);
    }

    int parted(int i, int what) {
        if (i < 0 || i >= acts.size() || what < 0 || what > 1) {
            return NO;
        }
        // A lower number that fits for every place with up to sixty marks would be too large.
        long lower = 1;
        for (int p = 0; p < 9; p++) {
            int place = p;
            long many = marks.stream().filter(m -> m.place == place).count();
            if (many > 0) {
                lower = lower / gcd(lower, many) * many;
            }
        }
        long upper = 0;
        int own = 0;
        for (Mark mark : marks) {
            if (mark.act == i) {
                own++;
                long many = marks.stream().filter(m -> m.place == mark.place).count();
                long sum = marks.stream().filter(m -> m.place == mark.place).mapToLong(m -> m.claps).sum();
                upper += mark.claps * lower - sum * (lower / many);
            }
        }
        if (own == 0) {
            return NO;
        }
        lower *= own;
        long common = gcd(Math.abs(upper), lower);
        return (int) (what == 0 ? upper / common : lower / common);
    }

    int opener() {
        int best = NONE;
        long fewest = 0;
        for (int i = 0; i < acts.size(); i++) {
            int act = i;
            long many = marks.stream().filter(m -> m.act == act && m.place == 0).count();
            if (best == NONE || many < fewest
                    || many == fewest && acts.get(i).strength < acts.get(best).strength) {
                best = i;
                fewest = many;
            }
        }
        return best;
    }

    int hold(int what) {
        if (what < 0 || what > 1) {
            return BAD;
        }
        if (bill.isEmpty()) {
            return STATE;
        }
        int most = -1;
        int first = 0;
        for (List<Integer> order : orders(bill)) {
            int clock = 0;
            int held = 0;
            for (int i : order) {
                clock += acts.get(i).minutes;
                held += families[i] * clock;
            }
            if (held > most) {
                most = held;
                first = figures(order);
            }
        }
        return what == 0 ? most : first;
    }

    int drawn() {
        if (bill.isEmpty()) {
            return STATE;
        }
        Row row = row();
        for (int p = 0; p < bill.size(); p++) {
            lot = (int) (lot * 1103515245L + 12345L);
            row.luck[p] = (int) (((lot & 0xffffffffL) / 65536) % 5) - 2;
        }
        return row.value();
    }

    int lot(int v) {
        int old = lot;
        lot = v;
        return old;
    }

    // ---- kinds, images

    private int up(int kind, int i) {
        Act a = acts.get(i);
        switch (kind) {
            case 0:
                trace += 1;
                return a.strength;
            case 1:
                trace += 10;
                return up(0, i) + tunes[4];
            case 2:
                trace += 100;
                return up(0, i) + a.minutes;
            case 3:
                trace += 1000;
                return 2 * up(1, i);
            case 4:
                trace += 10000;
                return up(5, i) + families[i];
            default:
                trace += 100000;
                return up(0, i) - a.set - a.strike;
        }
    }

    int rate(int kind, int i) {
        return kind < 0 || kind > 5 || i < 0 || i >= acts.size() ? NO : up(kind, i);
    }

    int keep(int image) {
        if (image < 0 || image > 1) {
            return BAD;
        }
        images[image] = new Image(List.copyOf(bill), pause, lot);
        return bill.size();
    }

    int back(int image) {
        if (image < 0 || image > 1) {
            return BAD;
        }
        if (images[image] == null) {
            return STATE;
        }
        bill = new ArrayList<>(images[image].bill);
        pause = images[image].pause;
        lot = images[image].lot;
        return bill.size();
    }

    int count(int what) {
        if (what < 0 || what > 4) {
            return BAD;
        }
        return new int[] {acts.size(), bill.size(), pause, marks.size(), text.length()}[what];
    }

    long trace() {
        return trace;
    }
}
