/**
 * A bill of acts: acts told by a text, their order with a break, the minutes and the house of a
 * night, the best of other orders, marks of old nights, families, draws and images.
 *
 * <p>The words in capitals are those of the document. Everything that a call needs is made in the
 * constructor and used again: no call makes an object.
 */
public final class NineActs {
    public static final int BAD = -1, STATE = -2, FULL = -3, NONE = -9;
    public static final int NO = -1000000;

    private static final int MOST_ACTS = 9;
    private static final int MOST_BYTES = 400;
    private static final int MOST_MARKS = 60;
    private static final int MOST_SEARCHED = 7;
    private static final int PLACES = 9;
    private static final int IMAGES = 2;

    private static final int MOST_KIND = 5;
    private static final int MOST_LONG = 30;
    private static final int MOST_STRENGTH = 30;
    private static final int MOST_SET = 9;
    private static final int MOST_TRAIN = 250;
    private static final int MOST_NUMBER = 250;
    private static final int MOST_FAMILY = 99;
    private static final int MOST_MARKED_CLAPS = 99;
    private static final int MOST_HEAT = 100;

    private static final int PLAIN = 0;
    private static final int SAD = 1;
    private static final int LOUD = 2;

    private static final int TUNES = 8;
    private static final int MOST_GAP = 0;
    private static final int CLOSE = 1;
    private static final int BREAK = 2;
    private static final int CHILL = 3;
    private static final int SEATS = 4;
    private static final int TIRED = 5;
    private static final int FIRST_HEAT = 6;
    private static final int FIRST_PEOPLE = 7;
    private static final int[] TUNE_LEAST = {0, 10, 0, 0, 0, 0, 0, 0};
    private static final int[] TUNE_MOST = {9, 400, 30, 9, 10, 9, 99, 999};
    private static final int[] TUNE_AT_FIRST = {2, 180, 10, 2, 5, 1, 20, 400};

    private static final int RULE_GAP = 1;
    private static final int RULE_KIND = 2;
    private static final int RULE_FEUD = 3;
    private static final int RULE_TRAIN = 4;
    private static final int RULE_CLOSE = 5;

    private final Script script;
    private Cast cast;
    private Cast draft;
    private final Bill bill;
    private final Bill[] images;
    private final Show show;
    private final Search bestSearch;
    private final Search illSearch;
    private final Marks marks;
    private final Act guest;
    private final int[] line;
    private boolean bestIsKnown;
    private long traced;

    public NineActs() {
        script = new Script();
        cast = new Cast();
        draft = new Cast();
        bill = new Bill();
        images = new Bill[IMAGES];
        for (int k = 0; k < IMAGES; k++) {
            images[k] = new Bill();
        }
        show = new Show();
        bestSearch = new Search();
        illSearch = new Search();
        marks = new Marks();
        guest = new Act(MOST_ACTS);
        line = new int[MOST_ACTS];
        bestIsKnown = false;
        traced = 0;
        bill.draws = 1;
    }

    // ---- the acts

    public int type(long v, int n) {
        if (n < 1 || n > 8) {
            return BAD;
        }
        if (script.length + n > MOST_BYTES) {
            return FULL;
        }
        script.append(v, n);
        return script.length;
    }

    public int clear() {
        int had = script.length;
        script.length = 0;
        return had;
    }

    public int acts() {
        int items = script.tell(draft);
        if (items < 0) {
            return items;
        }
        Cast old = cast;
        cast = draft;
        draft = old;
        script.length = 0;
        bill.strip();
        marks.forget();
        for (int k = 0; k < IMAGES; k++) {
            images[k].kept = false;
        }
        bestIsKnown = false;
        return items;
    }

    public int act(int i, int what) {
        if (!isAct(i)) {
            return BAD;
        }
        Act one = cast.members[i];
        switch (what) {
            case 0: return one.kind;
            case 1: return one.minutes;
            case 2: return one.strength;
            case 3: return one.front ? 1 : 0;
            case 4: return one.set;
            case 5: return one.strike;
            case 6: return one.tone;
            case 7: return one.train;
            case 8: return one.families;
            default: return BAD;
        }
    }

    public int feud(int i, int j) {
        if (!isAct(i) || !isAct(j) || i == j) {
            return BAD;
        }
        return cast.members[i].hates(j) ? 1 : 0;
    }

    public int tune(int what, int v) {
        if (what < 0 || what >= TUNES || v < TUNE_LEAST[what] || v > TUNE_MOST[what]) {
            return BAD;
        }
        int old = show.tunes[what];
        show.tunes[what] = v;
        bestIsKnown = false;
        return old;
    }

    public int family(int i, int v) {
        if (!isAct(i) || v < 0 || v > MOST_FAMILY) {
            return BAD;
        }
        int old = cast.members[i].families;
        cast.members[i].families = v;
        return old;
    }

    // ---- the bill

    public int place(int i) {
        if (!isAct(i)) {
            return BAD;
        }
        if (bill.placeOf(i) != NONE) {
            return STATE;
        }
        bill.append(i);
        bestIsKnown = false;
        return bill.size;
    }

    public int empty() {
        int had = bill.size;
        bill.strip();
        bestIsKnown = false;
        return had;
    }

    public int rest(int b) {
        if (b < 0 || b >= bill.size) {
            return BAD;
        }
        int old = bill.pause;
        bill.pause = b;
        return old;
    }

    public int on(int p) {
        return bill.hasPlace(p) ? bill.row[p] : BAD;
    }

    public int minute(int p, int what) {
        if (!bill.hasPlace(p) || what < 0 || what > 2) {
            return BAD;
        }
        play(bill.row, bill.pause);
        switch (what) {
            case 0: return show.gap[p];
            case 1: return show.start[p];
            default: return show.end[p];
        }
    }

    public int staged(int what) {
        if (what < 0 || what > 1) {
            return BAD;
        }
        if (bill.size == 0) {
            return STATE;
        }
        play(bill.row, bill.pause);
        for (int rule = RULE_GAP; rule <= RULE_CLOSE; rule++) {
            int p = show.firstFailing(rule);
            if (p != NONE) {
                return what == 0 ? rule : p;
            }
        }
        return NONE;
    }

    public int night(int p, int what) {
        if (!bill.hasPlace(p) || what < 0 || what > 3) {
            return BAD;
        }
        play(bill.row, bill.pause);
        switch (what) {
            case 0: return show.heatAt[p];
            case 1: return show.claps[p];
            case 2: return show.heatBehind[p];
            default: return show.people[p];
        }
    }

    public int worth(int what) {
        if (what < 0 || what > 3) {
            return BAD;
        }
        if (bill.size == 0) {
            return STATE;
        }
        play(bill.row, bill.pause);
        int last = bill.size - 1;
        switch (what) {
            case 0: return show.total();
            case 1: return show.ices;
            case 2: return show.people[last];
            default: return show.end[last];
        }
    }

    // ---- other bills

    public int best(int what) {
        if (what < 0 || what > 3) {
            return BAD;
        }
        if (bill.size == 0 || bill.size > MOST_SEARCHED) {
            return STATE;
        }
        searchBest();
        if (what == 3) {
            return bestSearch.found;
        }
        if (bestSearch.found == 0) {
            return NONE;
        }
        switch (what) {
            case 0: return bestSearch.total;
            case 1: return bestSearch.order;
            default: return bestSearch.pause;
        }
    }

    public int custom() {
        if (bill.size == 0) {
            return STATE;
        }
        lineUp(NONE);
        sortByStrength();
        int last = bill.size - 1;
        if (last > 0) {
            int strongest = line[last];
            line[last] = line[last - 1];
            line[last - 1] = strongest;
        }
        play(line, bill.pause);
        return show.total();
    }

    public int when() {
        if (bill.size == 0) {
            return STATE;
        }
        int best = NONE;
        int most = 0;
        for (int b = 0; b < bill.size; b++) {
            play(bill.row, b);
            if (show.isStaged() && (best == NONE || show.total() > most)) {
                best = b;
                most = show.total();
            }
        }
        return best;
    }

    public int ill(int i, int what) {
        int out = isAct(i) ? bill.placeOf(i) : NONE;
        if (out == NONE || what < 0 || what > 2) {
            return BAD;
        }
        if (bill.size > MOST_SEARCHED || bill.size < 2) {
            return STATE;
        }
        searchWithout(i, out);
        if (illSearch.found == 0) {
            return NONE;
        }
        switch (what) {
            case 0: return illSearch.moved;
            case 1: return illSearch.order;
            default: return illSearch.total;
        }
    }

    public int halves(int what) {
        if (what < 0 || what > 1) {
            return BAD;
        }
        if (bill.size < 2) {
            return STATE;
        }
        int all = bill.bits();
        int best = NONE;
        for (int hall = 1; hall <= all; hall++) {
            if (isHall(hall, all) && (best == NONE || apart(hall, all) < apart(best, all))) {
                best = hall;
            }
        }
        if (best == NONE) {
            return NONE;
        }
        return what == 0 ? best : apart(best, all);
    }

    public int tryout(int kind, int minutes, int strength, int what) {
        if (kind < 0 || kind > MOST_KIND || minutes < 1 || minutes > MOST_LONG) {
            return BAD;
        }
        if (strength < 0 || strength > MOST_STRENGTH || what < 0 || what > 1) {
            return BAD;
        }
        guest.kind = kind;
        guest.minutes = minutes;
        guest.strength = strength;
        int best = NONE;
        int most = 0;
        for (int p = 0; p <= bill.size; p++) {
            playWithGuest(p);
            if (show.isStaged() && (best == NONE || show.total() > most)) {
                best = p;
                most = show.total();
            }
        }
        return best == NONE || what == 0 ? best : most;
    }

    // ---- marks, families, draws

    public int mark(int i, int p, int claps) {
        if (!isAct(i) || p < 0 || p >= PLACES || claps < 0 || claps > MOST_MARKED_CLAPS) {
            return BAD;
        }
        if (marks.size >= MOST_MARKS) {
            return FULL;
        }
        marks.append(i, p, claps);
        return marks.size;
    }

    public int parted(int i, int what) {
        if (!isAct(i) || what < 0 || what > 1 || marks.timesOf(i) == 0) {
            return NO;
        }
        marks.part(i);
        return (int) (what == 0 ? marks.upper : marks.lower);
    }

    public int opener() {
        int best = NONE;
        for (int i = 0; i < cast.size; i++) {
            if (best == NONE || opensAhead(i, best)) {
                best = i;
            }
        }
        return best;
    }

    public int hold(int what) {
        if (what < 0 || what > 1) {
            return BAD;
        }
        if (bill.size == 0) {
            return STATE;
        }
        lineUp(NONE);
        sortByFamilies();
        int clock = 0;
        int held = 0;
        int order = 0;
        for (int p = 0; p < bill.size; p++) {
            Act one = cast.members[line[p]];
            clock += one.minutes;
            held += one.families * clock;
            order = order * 10 + one.number;
        }
        return what == 0 ? held : order;
    }

    public int drawn() {
        if (bill.size == 0) {
            return STATE;
        }
        show.open(bill.size, bill.pause);
        for (int p = 0; p < bill.size; p++) {
            show.seat(p, cast.members[bill.row[p]]);
            show.applaud(p, bill.draw() - 2);
        }
        return show.total();
    }

    public int lot(int v) {
        int old = bill.draws;
        bill.draws = v;
        return old;
    }

    // ---- kinds, images

    public int rate(int kind, int i) {
        if (!isAct(i)) {
            return NO;
        }
        Act one = cast.members[i];
        switch (kind) {
            case 0: return ratePlace(one);
            case 1: return rateOpening(one);
            case 2: return rateFrontCloth(one);
            case 3: return rateSecond(one);
            case 4: return rateDraw(one);
            case 5: return rateClosing(one);
            default: return NO;
        }
    }

    public int keep(int image) {
        if (image < 0 || image >= IMAGES) {
            return BAD;
        }
        images[image].copy(bill);
        images[image].kept = true;
        return bill.size;
    }

    public int back(int image) {
        if (image < 0 || image >= IMAGES) {
            return BAD;
        }
        if (!images[image].kept) {
            return STATE;
        }
        bill.copy(images[image]);
        bestIsKnown = false;
        return bill.size;
    }

    public int count(int what) {
        switch (what) {
            case 0: return cast.size;
            case 1: return bill.size;
            case 2: return bill.pause;
            case 3: return marks.size;
            case 4: return script.length;
            default: return BAD;
        }
    }

    public long trace() {
        return traced;
    }

    // ---- what the calls share

    private boolean isAct(int i) {
        return i >= 0 && i < cast.size;
    }

    /** Plays a row that has all acts of THE BILL, with a break of its own. */
    private void play(int[] row, int pause) {
        show.open(bill.size, pause);
        for (int p = 0; p < bill.size; p++) {
            show.seat(p, cast.members[row[p]]);
            show.applaud(p, 0);
        }
    }

    private void playWithGuest(int place) {
        int pause = bill.pause > place ? bill.pause + 1 : bill.pause;
        show.open(bill.size + 1, pause);
        for (int p = 0; p < place; p++) {
            show.seat(p, cast.members[bill.row[p]]);
            show.applaud(p, 0);
        }
        show.seat(place, guest);
        show.applaud(place, 0);
        for (int p = place; p < bill.size; p++) {
            show.seat(p + 1, cast.members[bill.row[p]]);
            show.applaud(p + 1, 0);
        }
    }

    /** Puts the acts of THE BILL but one into the line, the least number first: how many. */
    private int lineUp(int without) {
        int size = 0;
        for (int i = 0; i < cast.size; i++) {
            if (i != without && bill.placeOf(i) != NONE) {
                line[size] = i;
                size++;
            }
        }
        return size;
    }

    // BEST is asked for in parts (value, order, break, how many), and its search is the dearest
    // of all: what it found is good until the acts, the tunes or who is on THE BILL change.
    private void searchBest() {
        if (bestIsKnown) {
            return;
        }
        int size = lineUp(NONE);
        bestSearch.begin(size);
        for (int k = 0; k < size; k++) {
            bestSearch.pool[k] = cast.members[line[k]];
            bestSearch.home[k] = NONE;
        }
        for (int b = 0; b < size; b++) {
            show.open(size, b);
            bestSearch.run(show);
        }
        bestIsKnown = true;
    }

    private void searchWithout(int i, int out) {
        int size = lineUp(i);
        illSearch.begin(size);
        for (int k = 0; k < size; k++) {
            illSearch.pool[k] = cast.members[line[k]];
            illSearch.home[k] = bill.row[k < out ? k : k + 1];
        }
        int pause = out < bill.pause ? bill.pause - 1 : bill.pause;
        show.open(size, pause < size ? pause : 0);
        illSearch.run(show);
    }

    private boolean isHall(int hall, int all) {
        int other = all & ~hall;
        int least = all & -all;
        if ((hall & ~all) != 0 || (hall & least) == 0) {
            return false;
        }
        int more = Integer.bitCount(hall) - Integer.bitCount(other);
        return more >= -1 && more <= 1 && hasOneOfAKind(hall) && hasOneOfAKind(other);
    }

    private boolean hasOneOfAKind(int hall) {
        int kinds = 0;
        for (int i = 0; i < cast.size; i++) {
            if ((hall >> i & 1) == 1) {
                int kind = 1 << cast.members[i].kind;
                if ((kinds & kind) != 0) {
                    return false;
                }
                kinds |= kind;
            }
        }
        return true;
    }

    private int apart(int hall, int all) {
        int more = 0;
        for (int i = 0; i < cast.size; i++) {
            if ((hall >> i & 1) == 1) {
                more += cast.members[i].strength;
            } else if ((all >> i & 1) == 1) {
                more -= cast.members[i].strength;
            }
        }
        return Math.abs(more);
    }

    private boolean opensAhead(int i, int j) {
        int fewer = marks.times[i * PLACES] - marks.times[j * PLACES];
        if (fewer != 0) {
            return fewer < 0;
        }
        return cast.members[i].strength < cast.members[j].strength;
    }

    private void sortByStrength() {
        for (int k = 1; k < bill.size; k++) {
            for (int p = k; p > 0 && isWeaker(line[p], line[p - 1]); p--) {
                swapAhead(p);
            }
        }
    }

    // Two neighbours are better the other way round just when the first has more FAMILIES for
    // each minute; so the orders with the most are those sorted by that, and the first of them
    // has equals by their numbers.
    private void sortByFamilies() {
        for (int k = 1; k < bill.size; k++) {
            for (int p = k; p > 0 && holdsLess(line[p], line[p - 1]); p--) {
                swapAhead(p);
            }
        }
    }

    private boolean isWeaker(int i, int j) {
        return cast.members[i].strength < cast.members[j].strength;
    }

    private boolean holdsLess(int i, int j) {
        Act one = cast.members[i];
        Act other = cast.members[j];
        return one.families * other.minutes < other.families * one.minutes;
    }

    private void swapAhead(int p) {
        int i = line[p];
        line[p] = line[p - 1];
        line[p - 1] = i;
    }

    private int ratePlace(Act one) {
        traced += 1;
        return one.strength;
    }

    private int rateOpening(Act one) {
        traced += 10;
        return ratePlace(one) + show.tunes[SEATS];
    }

    private int rateFrontCloth(Act one) {
        traced += 100;
        return ratePlace(one) + one.minutes;
    }

    private int rateSecond(Act one) {
        traced += 1000;
        return 2 * rateOpening(one);
    }

    private int rateDraw(Act one) {
        traced += 10000;
        return rateClosing(one) + one.families;
    }

    private int rateClosing(Act one) {
        traced += 100000;
        return ratePlace(one) - (one.set + one.strike);
    }

    /** An act; one that is tried out has a number behind all others. */
    private static final class Act {
        final int number;
        int kind;
        int minutes;
        int strength;
        boolean front;
        int set;
        int strike;
        int tone;
        int train;
        int families;
        int feuds;

        Act(int number) {
            this.number = number;
        }

        void forget() {
            kind = 0;
            minutes = 0;
            strength = 0;
            front = false;
            set = 0;
            strike = 0;
            tone = PLAIN;
            train = 0;
            families = 0;
            feuds = 0;
        }

        boolean hates(int other) {
            return (feuds >> other & 1) == 1;
        }
    }

    /** The ACTS that a text told. */
    private static final class Cast {
        final Act[] members;
        int size;

        Cast() {
            members = new Act[MOST_ACTS];
            for (int i = 0; i < MOST_ACTS; i++) {
                members[i] = new Act(i);
            }
            size = 0;
        }

        void fallOut(int i, int j) {
            members[i].feuds |= 1 << j;
            members[j].feuds |= 1 << i;
        }
    }

    /** THE TEXT, and its reading token by token. */
    private static final class Script {
        static final int END = 0;
        static final int STRANGE = 1;
        static final int NUMBER = 2;
        static final int SEMICOLON = 3;
        static final int WORD_ACT = 4;
        static final int WORD_FRONT = 5;
        static final int WORD_SET = 6;
        static final int WORD_SAD = 7;
        static final int WORD_LOUD = 8;
        static final int WORD_TRAIN = 9;
        static final int WORD_FEUD = 10;

        final char[] text;
        int length;
        int token;
        int tokenAt;
        int tokenValue;
        int next;

        Script() {
            text = new char[MOST_BYTES];
        }

        void append(long v, int n) {
            for (int k = n - 1; k >= 0 && length < MOST_BYTES; k--) {
                text[length] = (char) (v >>> 8 * k & 255);
                length++;
            }
        }

        /** Tells a cast anew: how many items, or -10 less the fault. */
        int tell(Cast draft) {
            draft.size = 0;
            next = 0;
            advance();
            int items = 0;
            while (token != END && items < MOST_BYTES) {
                boolean isAct = token == WORD_ACT && draft.size < MOST_ACTS;
                boolean good = isAct ? tellAct(draft) : tellFeud(draft);
                if (!good) {
                    return -10 - tokenAt;
                }
                items++;
            }
            return items;
        }

        // Each part begins at its first token and ends behind its last one; it answers false at
        // the token that can't stand there.
        private boolean tellAct(Cast draft) {
            Act one = draft.members[draft.size];
            one.forget();
            advance();
            if (!tellFigures(one) || !tellStage(one)) {
                return false;
            }
            tellTone(one);
            if (!tellTrain(one) || token != SEMICOLON) {
                return false;
            }
            draft.size++;
            advance();
            return true;
        }

        private boolean tellFigures(Act one) {
            if (!isNumber(0, MOST_KIND)) {
                return false;
            }
            one.kind = tokenValue;
            advance();
            if (!isNumber(1, MOST_LONG)) {
                return false;
            }
            one.minutes = tokenValue;
            advance();
            if (!isNumber(0, MOST_STRENGTH)) {
                return false;
            }
            one.strength = tokenValue;
            advance();
            return true;
        }

        private boolean tellStage(Act one) {
            if (token == WORD_FRONT) {
                one.front = true;
                advance();
                return true;
            }
            if (token != WORD_SET) {
                return true;
            }
            advance();
            if (!isNumber(0, MOST_SET)) {
                return false;
            }
            one.set = tokenValue;
            advance();
            if (!isNumber(0, MOST_SET)) {
                return false;
            }
            one.strike = tokenValue;
            advance();
            return true;
        }

        private void tellTone(Act one) {
            if (token == WORD_SAD || token == WORD_LOUD) {
                one.tone = token == WORD_SAD ? SAD : LOUD;
                advance();
            }
        }

        private boolean tellTrain(Act one) {
            if (token != WORD_TRAIN) {
                return true;
            }
            advance();
            if (!isNumber(1, MOST_TRAIN)) {
                return false;
            }
            one.train = tokenValue;
            advance();
            return true;
        }

        private boolean tellFeud(Cast draft) {
            if (token != WORD_FEUD) {
                return false;
            }
            advance();
            if (!isNumber(0, draft.size - 1)) {
                return false;
            }
            int first = tokenValue;
            advance();
            if (!isNumber(0, draft.size - 1) || tokenValue == first) {
                return false;
            }
            int second = tokenValue;
            advance();
            if (token != SEMICOLON) {
                return false;
            }
            draft.fallOut(first, second);
            advance();
            return true;
        }

        private boolean isNumber(int least, int most) {
            return token == NUMBER && tokenValue >= least && tokenValue <= most;
        }

        private void advance() {
            while (next < length && text[next] == ' ') {
                next++;
            }
            tokenAt = next;
            if (next >= length) {
                token = END;
            } else if (isLetter(text[next])) {
                readWord();
            } else if (isDigit(text[next])) {
                readNumber();
            } else {
                token = text[next] == ';' ? SEMICOLON : STRANGE;
                next++;
            }
        }

        private void readWord() {
            while (next < length && isLetter(text[next])) {
                next++;
            }
            if (spells("act")) {
                token = WORD_ACT;
            } else if (spells("front")) {
                token = WORD_FRONT;
            } else if (spells("set")) {
                token = WORD_SET;
            } else if (spells("sad")) {
                token = WORD_SAD;
            } else if (spells("loud")) {
                token = WORD_LOUD;
            } else if (spells("train")) {
                token = WORD_TRAIN;
            } else {
                token = spells("feud") ? WORD_FEUD : STRANGE;
            }
        }

        private boolean spells(String word) {
            if (next - tokenAt != word.length()) {
                return false;
            }
            for (int k = 0; k < word.length(); k++) {
                if (text[tokenAt + k] != word.charAt(k)) {
                    return false;
                }
            }
            return true;
        }

        private void readNumber() {
            tokenValue = 0;
            while (next < length && isDigit(text[next])) {
                // Held low, for 400 figures would wrap around.
                tokenValue = Math.min(tokenValue * 10 + (text[next] - '0'), 1000);
                next++;
            }
            boolean zeroAhead = text[tokenAt] == '0' && next - tokenAt > 1;
            token = zeroAhead || tokenValue > MOST_NUMBER ? STRANGE : NUMBER;
        }

        private static boolean isLetter(char sign) {
            return sign >= 'a' && sign <= 'z';
        }

        private static boolean isDigit(char sign) {
            return sign >= '0' && sign <= '9';
        }
    }

    /** THE BILL, the BREAK and THE LOT: what an IMAGE keeps. */
    private static final class Bill {
        final int[] row;
        int size;
        int pause;
        int draws;
        boolean kept;

        Bill() {
            row = new int[MOST_ACTS];
        }

        boolean hasPlace(int p) {
            return p >= 0 && p < size;
        }

        int placeOf(int i) {
            for (int p = 0; p < size; p++) {
                if (row[p] == i) {
                    return p;
                }
            }
            return NONE;
        }

        void append(int i) {
            if (size < MOST_ACTS) {
                row[size] = i;
                size++;
            }
        }

        void strip() {
            size = 0;
            pause = 0;
        }

        int bits() {
            int bits = 0;
            for (int p = 0; p < size; p++) {
                bits |= 1 << row[p];
            }
            return bits;
        }

        int draw() {
            draws = draws * 1103515245 + 12345;
            return (draws >>> 16) % 5;
        }

        void copy(Bill other) {
            for (int p = 0; p < other.size; p++) {
                row[p] = other.row[p];
            }
            size = other.size;
            pause = other.pause;
            draws = other.draws;
        }
    }

    /**
     * A night, told place by place: a place needs only the one ahead of it, so that a search can
     * go back and set another act where it was.
     */
    private static final class Show {
        // One act that is tried out may stand among all others.
        static final int MOST_ROW = MOST_ACTS + 1;

        final int[] tunes;
        final Act[] row;
        final int[] gap;
        final int[] start;
        final int[] end;
        final int[] toStrike;
        final int[] heatAt;
        final int[] claps;
        final int[] heatBehind;
        final int[] people;
        final int[] clapsSoFar;
        int size;
        int pause;
        int ices;

        Show() {
            tunes = TUNE_AT_FIRST.clone();
            row = new Act[MOST_ROW];
            // A place where no act was seated yet is not null, so that none need be tested for it.
            Act nobody = new Act(MOST_ACTS);
            for (int p = 0; p < MOST_ROW; p++) {
                row[p] = nobody;
            }
            gap = new int[MOST_ROW];
            start = new int[MOST_ROW];
            end = new int[MOST_ROW];
            toStrike = new int[MOST_ROW];
            heatAt = new int[MOST_ROW];
            claps = new int[MOST_ROW];
            heatBehind = new int[MOST_ROW];
            people = new int[MOST_ROW];
            clapsSoFar = new int[MOST_ROW];
        }

        void open(int newSize, int newPause) {
            size = newSize;
            pause = newPause;
            ices = 0;
        }

        /** Sets an act at a place and tells its minutes. */
        void seat(int p, Act one) {
            row[p] = one;
            int clock = p > 0 ? end[p - 1] : 0;
            // What is left to strike, less what FRONT acts and the BREAK have covered since.
            int left = p > 0 ? toStrike[p - 1] : 0;
            if (pausesAhead(p)) {
                clock += tunes[BREAK];
                left -= tunes[BREAK];
            }
            gap[p] = one.front ? 0 : Math.max(0, one.set + left);
            start[p] = clock + gap[p];
            end[p] = start[p] + one.minutes;
            toStrike[p] = one.front ? left - one.minutes : one.strike;
        }

        /** Tells the house at a place whose minutes are told; luck comes to its claps. */
        void applaud(int p, int luck) {
            int heat = p > 0 ? heatBehind[p - 1] : tunes[FIRST_HEAT];
            int crowd = p > 0 ? people[p - 1] : tunes[FIRST_PEOPLE];
            boolean paused = pausesAhead(p);
            if (paused) {
                ices = crowd * heat / 1000;
                heat = heat / 2;
            }
            heat = Math.max(0, heat - tunes[CHILL] * gap[p]);
            if (p > 0 && !paused) {
                heat = Math.max(0, heat - damping(row[p - 1].tone, row[p].tone));
            }
            int loudness = Math.max(0, clapsBy(p, heat) + luck);
            heatAt[p] = heat;
            claps[p] = loudness;
            heatBehind[p] = Math.max(0, Math.min(MOST_HEAT, heat + loudness - 12));
            people[p] = loudness < 8 ? crowd - crowd * (8 - loudness) / 100 : crowd;
            clapsSoFar[p] = loudness + (p > 0 ? clapsSoFar[p - 1] : 0);
        }

        private boolean pausesAhead(int p) {
            return p > 0 && p == pause;
        }

        private static int damping(int ahead, int tone) {
            if (tone == ahead && tone != PLAIN) {
                return 10;
            }
            return tone == LOUD && ahead == SAD ? 5 : 0;
        }

        private int clapsBy(int p, int heat) {
            int seats = 10;
            if (p < 2) {
                seats = p == 0 ? tunes[SEATS] : (tunes[SEATS] + 10) / 2;
            }
            int warm = row[p].strength * (100 + heat) / 100;
            int tired = p > 5 ? tunes[TIRED] * (p - 5) : 0;
            return Math.max(0, warm * seats / 10 - tired);
        }

        int total() {
            if (size < 1) {
                return 0;
            }
            return clapsSoFar[size - 1] + claps[size - 1] + ices;
        }

        /** The least place at which one of the five rules of STAGED fails, or NONE. */
        int firstFailing(int rule) {
            for (int p = 0; p < size; p++) {
                if (fails(rule, p)) {
                    return p;
                }
            }
            return NONE;
        }

        private boolean fails(int rule, int p) {
            switch (rule) {
                case RULE_GAP: return gap[p] > tunes[MOST_GAP];
                case RULE_KIND: return p > 0 && !pausesAhead(p) && row[p].kind == row[p - 1].kind;
                case RULE_FEUD: return p > 0 && row[p].hates(row[p - 1].number);
                case RULE_TRAIN: return row[p].train > 0 && end[p] > row[p].train;
                default: return p == size - 1 && end[p] > tunes[CLOSE];
            }
        }

        boolean isStaged() {
            for (int p = 0; p < size; p++) {
                if (!fits(p)) {
                    return false;
                }
            }
            return true;
        }

        // Acts end one later than another: behind CLOSE at any place is behind it at the last.
        boolean fits(int p) {
            return !fails(RULE_GAP, p) && !fails(RULE_KIND, p) && !fails(RULE_FEUD, p)
                    && !fails(RULE_TRAIN, p) && end[p] <= tunes[CLOSE];
        }
    }

    /** All orders of some acts that can be staged, and the one that is best. */
    private static final class Search {
        final Act[] pool;
        /** The act that a place would have anyway, or NONE where that is nothing to ask for. */
        final int[] home;
        int size;
        int found;
        int moved;
        int total;
        int order;
        int pause;

        Search() {
            pool = new Act[MOST_SEARCHED];
            Act nobody = new Act(MOST_ACTS);
            for (int k = 0; k < MOST_SEARCHED; k++) {
                pool[k] = nobody;
            }
            home = new int[MOST_SEARCHED];
        }

        void begin(int newSize) {
            size = Math.min(newSize, MOST_SEARCHED);
            found = 0;
        }

        /** Weighs all orders of the pool by a show that was opened for as many acts. */
        void run(Show show) {
            extend(show, 0, 0, 0, 0);
        }

        // The place is the depth: the pool has seven at most.
        private void extend(Show show, int p, int used, int away, int figures) {
            if (p >= size) {
                weigh(show, away, figures);
                return;
            }
            for (int k = 0; k < size; k++) {
                if ((used >> k & 1) == 0) {
                    attempt(show, p, k, used, away, figures);
                }
            }
        }

        private void attempt(Show show, int p, int k, int used, int away, int figures) {
            Act one = pool[k];
            show.seat(p, one);
            if (!show.fits(p)) {
                return;
            }
            show.applaud(p, 0);
            int moves = home[p] == NONE || home[p] == one.number ? 0 : 1;
            extend(show, p + 1, used | 1 << k, away + moves, figures * 10 + one.number);
        }

        private void weigh(Show show, int away, int figures) {
            int value = show.total();
            if (found == 0 || isBetter(away, value, figures)) {
                moved = away;
                total = value;
                order = figures;
                pause = show.pause;
            }
            found++;
        }

        private boolean isBetter(int away, int value, int figures) {
            if (away != moved) {
                return away < moved;
            }
            if (value != total) {
                return value > total;
            }
            return figures < order;
        }
    }

    /** MARKS, added up by act and place; and a fraction of them. */
    private static final class Marks {
        final int[] times;
        final int[] claps;
        int size;
        long upper;
        long lower;

        Marks() {
            times = new int[MOST_ACTS * PLACES];
            claps = new int[MOST_ACTS * PLACES];
            lower = 1;
        }

        void forget() {
            for (int k = 0; k < MOST_ACTS * PLACES; k++) {
                times[k] = 0;
                claps[k] = 0;
            }
            size = 0;
        }

        void append(int i, int p, int heard) {
            times[i * PLACES + p]++;
            claps[i * PLACES + p] += heard;
            size++;
        }

        int timesOf(int i) {
            int all = 0;
            for (int p = 0; p < PLACES; p++) {
                all += times[i * PLACES + p];
            }
            return all;
        }

        /** Makes the fraction PARTED of an act that has marks. */
        void part(int i) {
            upper = 0;
            lower = 1;
            for (int p = 0; p < PLACES; p++) {
                if (times[i * PLACES + p] > 0) {
                    addPlace(i, p);
                }
            }
            lower *= Math.max(1, timesOf(i));
            reduce();
        }

        // The marks at a place less as often its mean. Ahead of its reduction the fraction may be
        // wider than an int, so it is held in longs; reduced it fits an int, as sixty marks make
        // places whose least common multiple is 1021020 at most.
        private void addPlace(int i, int p) {
            int allTimes = 0;
            int allClaps = 0;
            for (int k = 0; k < MOST_ACTS; k++) {
                allTimes += times[k * PLACES + p];
                allClaps += claps[k * PLACES + p];
            }
            int own = i * PLACES + p;
            long more = (long) claps[own] * allTimes - (long) times[own] * allClaps;
            upper = upper * allTimes + more * lower;
            lower = lower * allTimes;
            reduce();
        }

        private void reduce() {
            long a = Math.abs(upper);
            long b = lower;
            for (int k = 0; k < 100 && b != 0; k++) {
                long left = a % b;
                a = b;
                b = left;
            }
            if (a > 1) {
                upper /= a;
                lower /= a;
            }
        }
    }
}
