import java.util.Arrays;
import java.util.NoSuchElementException;

/** Ringers ring a peal, and each may leave out his bell now and then, by the law of the tower. */
public final class EachMayMissOne {
    public static final int NONE = -1;

    private static final int NO_ANSWER = -2;
    private static final int NOT_SO = -100;
    private static final int MOST_BELLS = 7;
    private static final int FEWEST_BELLS = 3;
    private static final int MOST_TIRED = 99;
    private static final int A_BEER = 10;
    private static final int MOST_BEERS = 10;
    private static final int FAR = 200;
    private static final int LONG = 60;
    private static final int PLANNED = 12;
    private static final int HEARD_AT_ONCE = 14;
    private static final int SAID_AT_ONCE = 9;
    private static final int REMEMBERED = 20;
    private static final int UNDONE = 12;

    private final Text text = new Text();
    private final Told told = new Told();
    private final Tower tower = new Tower();
    private final State live = new State();
    private final State trial = new State();
    private final Past past = new Past();
    private final Kept kept = new Kept();
    private final Night acts = new Night();
    private final Plan plan = new Plan();
    private final Pairs pairs = new Pairs();
    private final int[] ahead = new int[FAR + 1];
    private final int[] wanted = new int[LONG];
    private final int[] least = new int[MOST_BELLS];
    private int broken;

    public EachMayMissOne() {
    }

    // ---- the tower, the method

    public int sign(int v) {
        return text.addFour(v) ? text.length : NONE;
    }

    public boolean end(int n) {
        return text.cutTo(n);
    }

    public int tower() {
        int answer = tower.readWeights(text);
        text.clear();
        if (answer > 0) {
            live.begin();
            past.forget();
            kept.forget();
        }
        return answer;
    }

    public int method() {
        int answer = tower.changes.read(text, tower.bells);
        text.clear();
        if (answer > 0) {
            past.forget();
            kept.forget();
        }
        return answer;
    }

    public int rule() {
        int answer = tower.rule.read(text);
        text.clear();
        return answer;
    }

    public int ringer(int ringer, int what) throws NoSuchElementException {
        if (!tower.hasRinger(ringer)) {
            throw new NoSuchElementException("no such ringer");
        }
        switch (what) {
            case 0:
                return tower.weights[ringer];
            case 1:
                return live.tired[ringer];
            case 2:
                return live.slept[ringer];
            case 3:
                return live.drifts[ringer];
            case 4:
                return placeOf(live.order, ringer);
            case 5:
                return bit(live.who, ringer);
            case 6:
                return tower.moreTired(live, ringer, 0);
            default:
                throw new NoSuchElementException("nothing such of a ringer");
        }
    }

    public int bell(int place) throws NoSuchElementException {
        if (!tower.hasRinger(place)) {
            throw new NoSuchElementException("no such place");
        }
        return bellAt(live.order, place);
    }

    public int set(int what, int v) {
        int was = NONE;
        if (what == 0 && v >= 1 && v <= 3) {
            was = tower.most;
            tower.most = v;
        } else if (what == 1 && v >= 1 && v <= 99) {
            was = tower.rest;
            tower.rest = v;
        }
        return was;
    }

    public int sheet(int kind, int n, int f, int step) {
        if (kind < 0 || kind > 3 || n > MOST_BELLS) {
            return NONE;
        }
        if (kind < 3 && n < 0) {
            return NO_ANSWER;
        }
        int entries = kind == 3 ? 0 : n;
        for (int i = 0; i < tower.bells; i++) {
            live.tired[i] = i < entries ? put(narrowed(kind, f + i * step)) : 0;
        }
        return kind == 3 ? -3 : sum(live.tired);
    }

    // ---- rounds

    public int round(int those) {
        if (tower.bells == 0) {
            return NO_ANSWER;
        }
        if (!tower.hasAll(those)) {
            return NONE;
        }
        past.push(live);
        int answer = tower.ring(live, those);
        told.begin();
        told.add(live.where);
        told.add(live.drifted);
        return answer;
    }

    public int rounds(int n) {
        if (tower.bells == 0) {
            return NO_ANSWER;
        }
        if (n < 0 || n > LONG) {
            return NONE;
        }
        if (n > 0) {
            past.push(live);
        }
        int before = sum(live.drifts);
        int who = ringAll(live, n);
        told.begin();
        told.add(who);
        told.add(live.now);
        return sum(live.drifts) - before;
    }

    public int beer(int ringer) {
        if (!tower.hasRinger(ringer)) {
            return NONE;
        }
        past.push(live);
        live.drink(ringer);
        return live.tired[ringer];
    }

    public int night() {
        int read = acts.read(text);
        text.clear();
        if (read < 0) {
            return read;
        }
        if (canBeDone(0)) {
            past.push(live);
        }
        int deaths = live.deaths;
        int drifts = sum(live.drifts);
        int done = 0;
        while (done < read && canBeDone(done)) {
            doAct(done);
            done++;
        }
        told.begin();
        told.add(done < read ? 1 : 0);
        told.add(live.deaths - deaths);
        told.add(sum(live.drifts) - drifts);
        return done;
    }

    public int undo() {
        return past.pop(live) ? past.size : NONE;
    }

    // ---- orders to come

    public int order(int n) {
        if (tower.bells == 0) {
            return NO_ANSWER;
        }
        if (n < 0 || n > FAR) {
            return NONE;
        }
        lookAhead(n);
        told.begin();
        for (int place = 0; place < tower.bells; place++) {
            told.add(bellAt(ahead[n], place));
        }
        return bellAt(ahead[n], 0);
    }

    public int truth() {
        if (tower.bells == 0) {
            return NO_ANSWER;
        }
        lookAhead(FAR);
        for (int n = 1; n <= FAR; n++) {
            int before = firstAhead(ahead[n], n);
            if (before < n) {
                told.begin();
                told.add(before);
                return n;
            }
        }
        return NO_ANSWER;
    }

    public int lead() {
        if (tower.bells == 0) {
            return NO_ANSWER;
        }
        lookAhead(FAR);
        for (int n = 1; n <= FAR; n++) {
            if (ahead[n] == live.order && tower.changes.sameChange(live.now, live.now + n)) {
                return n;
            }
        }
        return NO_ANSWER;
    }

    public int leads(int bell, int place) {
        if (!tower.hasRinger(bell) || !tower.hasRinger(place)) {
            return NONE;
        }
        lookAhead(FAR);
        int first = NONE;
        int often = 0;
        for (int n = 0; n <= FAR; n++) {
            if (bellAt(ahead[n], place) == bell) {
                first = first == NONE ? n : first;
                often += n < FAR ? 1 : 0;
            }
        }
        if (first == NONE) {
            return NO_ANSWER;
        }
        told.begin();
        told.add(often);
        return first;
    }

    public int comes() {
        int read = tower.bells == 0 ? NOT_SO : readOrder();
        text.clear();
        if (read < 0) {
            return read;
        }
        lookAhead(FAR);
        int first = firstAhead(read, FAR + 1);
        if (first > FAR) {
            return NO_ANSWER;
        }
        int same = 0;
        for (int place = 0; place < tower.bells; place++) {
            same += bellAt(read, place) == bellAt(live.order, place) ? 1 : 0;
        }
        told.begin();
        told.add(same);
        return first;
    }

    public int course(int one, int other, int n) {
        if (!tower.hasTwo(one, other) || n < 1 || n > FAR) {
            return NONE;
        }
        lookAhead(n);
        int first = NONE;
        int often = 0;
        for (int k = 0; k < n; k++) {
            int apart = placeOf(ahead[k], one) - placeOf(ahead[k], other);
            if (apart == 1 || apart == -1) {
                first = first == NONE ? k : first;
                often++;
            }
        }
        told.begin();
        told.add(first);
        return often;
    }

    // ---- who may miss

    public int may(int those) {
        if (tower.bells == 0) {
            return NO_ANSWER;
        }
        return tower.hasAll(those) ? brokenNow(those) : NONE;
    }

    public int lawful() {
        if (tower.bells == 0) {
            return NO_ANSWER;
        }
        int many = 0;
        int best = 0;
        int some = 0;
        for (int those = 0; those < 1 << tower.bells; those++) {
            if (brokenNow(those) == 0) {
                many++;
                some |= those;
                best = live.tiredOf(those) > live.tiredOf(best) ? those : best;
            }
        }
        told.begin();
        told.add(best);
        told.add(some);
        return many;
    }

    public int covers(int ringer) {
        if (!tower.hasRinger(ringer)) {
            return NONE;
        }
        int one = 1 << ringer;
        if (brokenNow(one) != 0) {
            return NO_ANSWER;
        }
        int with = 0;
        int alone = 0;
        for (int i = 0; i < tower.bells; i++) {
            int other = 1 << i;
            if (i != ringer && brokenNow(other) == 0) {
                with |= brokenNow(one | other) == 0 ? other : 0;
                alone |= other;
            }
        }
        told.begin();
        told.add(alone & ~with);
        return with;
    }

    public int rivals(int one, int other, int n) {
        if (!tower.hasTwo(one, other) || n < 1 || n > LONG) {
            return NONE;
        }
        lookAhead(n);
        int answer = roundsInTurn(one, other, n);
        told.begin();
        told.add(broken);
        return answer;
    }

    public int matches(int those, int n) {
        if (!tower.hasAll(those) || n < 1 || n > LONG) {
            return NONE;
        }
        lookAhead(n);
        pairs.begin(those);
        for (int one = 0; one < tower.bells; one++) {
            for (int other = one + 1; other < tower.bells; other++) {
                if (pairs.both(one, other)) {
                    pairs.put(one, other, roundsInTurn(one, other, n));
                }
            }
        }
        return pairs.match(tower.bells, told);
    }

    // ---- naps

    public int sleeps(int n) {
        if (tower.bells == 0 || n < 1 || n > PLANNED) {
            return NONE;
        }
        lookAhead(n);
        plan.prepare(tower, ahead, live.now, n);
        return plan.mostMissed(live, n, told);
    }

    public int naps(int s, int n) {
        if (tower.bells == 0 || s < 1 || s > 2 || n < 1 || n > PLANNED) {
            return NONE;
        }
        if (tower.bells > Plan.NAPPING) {
            return -3;
        }
        lookAhead(n);
        plan.prepare(tower, ahead, live.now, n);
        return plan.fewestRounds(live, tower.bells, s, n, told);
    }

    public int bound(int s) {
        if (s < 1 || s > 99) {
            return NONE;
        }
        told.begin();
        told.add(tower.bells == 0 ? 0 : 2 * s - 1);
        int most = tower.most < 1 ? 1 : tower.most;
        return (tower.bells * s + most - 1) / most;
    }

    // ---- what was heard

    public int missed(int k) {
        if (k < 1) {
            return NONE;
        }
        return live.knows(k) ? live.missedIn(k) : NO_ANSWER;
    }

    public int heard(int place, int n) {
        if (!tower.hasRinger(place) || n < 0 || n > LONG) {
            return NONE;
        }
        lookAhead(n + 9);
        int whose = 0;
        for (int k = n; k <= n + 9; k++) {
            whose |= 1 << bellAt(ahead[k], place);
        }
        told.begin();
        told.add(whose);
        return bellAt(ahead[n], place);
    }

    public int reads() {
        int read = tower.bells == 0 ? NOT_SO : readGaps();
        text.clear();
        if (read < 0) {
            return read;
        }
        told.begin();
        for (int k = 0; k < read; k++) {
            told.add(firstOf(wanted[k]));
        }
        return lawfulRounds(read);
    }

    public int said(int k) {
        if (tower.bells == 0 || k < 1 || k > SAID_AT_ONCE) {
            return NONE;
        }
        if (!live.knows(k)) {
            return NO_ANSWER;
        }
        int number = 0;
        int gaps = 0;
        for (int back = k; back >= 1; back--) {
            int who = live.missedIn(back);
            number = number * (tower.bells + 1) + firstOf(who) + 1;
            gaps += who != 0 ? 1 : 0;
        }
        told.begin();
        told.add(gaps);
        return number;
    }

    public int says(int v, int k) {
        if (tower.bells == 0 || v < 0 || k < 1 || k > SAID_AT_ONCE) {
            return NONE;
        }
        int base = tower.bells + 1;
        int left = v;
        for (int i = k - 1; i >= 0; i--) {
            int digit = left % base;
            wanted[i] = digit == 0 ? 0 : 1 << (digit - 1);
            left /= base;
        }
        if (left > 0) {
            return NO_ANSWER;
        }
        lookAhead(k);
        if (lawfulRounds(k) < k) {
            return 0;
        }
        told.begin();
        for (int i = 0; i < k; i++) {
            told.add(wanted[i]);
        }
        return 1;
    }

    // ---- tired arms

    public int fails() {
        return firstDrift(false);
    }

    public int lasts() {
        return firstDrift(true);
    }

    public int stout(int n) {
        if (tower.bells == 0 || n < 1 || n > LONG) {
            return NONE;
        }
        // More beer may serve worse by a rule that asks t, so each number of beers is tried.
        int needy = (1 << tower.bells) - 1;
        int all = 0;
        for (int beers = 0; beers <= MOST_BEERS && needy != 0; beers++) {
            int drifting = driftingAfter(beers, n);
            for (int i = 0; i < tower.bells; i++) {
                if (bit(needy, i) == 1 && bit(drifting, i) == 0) {
                    least[i] = beers;
                    all += beers;
                }
            }
            needy &= drifting;
        }
        if (needy != 0) {
            return NO_ANSWER;
        }
        told.begin();
        for (int i = 0; i < tower.bells; i++) {
            told.add(least[i]);
        }
        return all;
    }

    public int weariest(int n) {
        if (tower.bells == 0 || n < 0 || n > LONG) {
            return NONE;
        }
        trial.copy(live);
        ringAll(trial, n);
        int best = 0;
        for (int i = 1; i < tower.bells; i++) {
            best = weariness(i) > weariness(best) ? i : best;
        }
        told.begin();
        told.add(trial.tired[best]);
        told.add(trial.drifts[best] - live.drifts[best]);
        return best;
    }

    // ---- nights

    public int coughs(int seed, int n, int k) {
        if (tower.bells == 0 || n < 1 || n > LONG || k < 1 || k > 9) {
            return NONE;
        }
        trial.copy(live);
        int drawn = seed;
        int numbers = tower.bells + k;
        for (int i = 0; i < n; i++) {
            drawn = drawn * 1103515245 + 12345;
            int number = (drawn >>> 16) % numbers;
            tower.ring(trial, tower.hasRinger(number) ? 1 << number : 0);
        }
        int sleeper = NONE;
        int often = 0;
        for (int i = 0; i < tower.bells; i++) {
            int more = trial.slept[i] - live.slept[i];
            if (more > often) {
                sleeper = i;
                often = more;
            }
        }
        told.begin();
        told.add(sum(trial.drifts) - sum(live.drifts));
        told.add(sleeper);
        told.add(often);
        return trial.deaths - live.deaths;
    }

    // ---- kept

    public boolean keep(int i) {
        return kept.put(i, live);
    }

    public boolean again(int i) {
        if (!kept.restore(i, live)) {
            return false;
        }
        past.forget();
        return true;
    }

    public int count(int what) {
        switch (what) {
            case 0:
                return tower.bells;
            case 1:
                return tower.changes.many;
            case 2:
                return live.now;
            case 3:
                return live.deaths;
            case 4:
                return sum(live.drifts);
            case 5:
                return sum(live.slept);
            case 6:
                return sum(live.tired);
            case 7:
                return tower.tenor;
            case 8:
                return live.where;
            case 9:
                return tower.most;
            case 10:
                return tower.rest;
            case 11:
                return past.size;
            case 12:
                return told.size;
            case 13:
                return text.length;
            default:
                return NOT_SO;
        }
    }

    public int row(int i) throws NoSuchElementException {
        if (i < 0 || i >= told.size) {
            throw new NoSuchElementException("no such number in the row");
        }
        return told.numbers[i];
    }

    // ---- what the calls share

    private static int bit(int those, int i) {
        return (those >> i) & 1;
    }

    private static int firstOf(int those) {
        for (int i = 0; i < MOST_BELLS; i++) {
            if (bit(those, i) == 1) {
                return i;
            }
        }
        return NONE;
    }

    private static int put(int tired) {
        return Math.max(0, Math.min(MOST_TIRED, tired));
    }

    private static int narrowed(int kind, int v) {
        if (kind == 0) {
            return (byte) v;
        }
        return kind == 1 ? (short) v : v;
    }

    private static int sum(int[] numbers) {
        int all = 0;
        for (int number : numbers) {
            all += number;
        }
        return all;
    }

    /** What a reading call answers when the sign at a place of the text can't stand there. */
    private static int cannotStand(int p) {
        return -1 - p;
    }

    // An order is one int, three bits a place, so that whole orders are compared at once.

    private static int bellAt(int order, int place) {
        return (order >> (3 * place)) & 7;
    }

    private static int withBell(int order, int place, int bell) {
        return (order & ~(7 << (3 * place))) | (bell << (3 * place));
    }

    private static int placeOf(int order, int bell) {
        int place = 0;
        while (place < MOST_BELLS - 1 && bellAt(order, place) != bell) {
            place++;
        }
        return place;
    }

    private static int inPlaceOrder() {
        int order = 0;
        for (int place = 0; place < MOST_BELLS; place++) {
            order = withBell(order, place, place);
        }
        return order;
    }

    private static int placesOf(int order, int those) {
        int places = 0;
        for (int place = 0; place < MOST_BELLS; place++) {
            places |= bit(those, bellAt(order, place)) << place;
        }
        return places;
    }

    /** Fills the orders behind 0 .. n rounds from now. */
    private void lookAhead(int n) {
        ahead[0] = live.order;
        for (int k = 0; k < n && k < FAR; k++) {
            ahead[k + 1] = tower.changes.next(ahead[k], tower.bells, live.now + k);
        }
    }

    /** Behind how many rounds, below n, an order is first; n, if in none. */
    private int firstAhead(int order, int n) {
        int k = 0;
        while (k < n && k <= FAR && ahead[k] != order) {
            k++;
        }
        return k;
    }

    private int brokenNow(int those) {
        return tower.breach(live.order, live.now, those, live.who, live.where);
    }

    /** How many of n rounds are lawful in which the wanted sets miss; broken tells what ended it. */
    private int lawfulRounds(int n) {
        int who = live.who;
        int where = live.where;
        broken = 0;
        for (int k = 0; k < n && k < LONG; k++) {
            broken = tower.breach(ahead[k], live.now + k, wanted[k], who, where);
            if (broken != 0) {
                return k;
            }
            who = wanted[k];
            where = placesOf(ahead[k], who);
        }
        return n;
    }

    private int roundsInTurn(int one, int other, int n) {
        for (int k = 0; k < n && k < LONG; k++) {
            wanted[k] = 1 << (k % 2 == 0 ? one : other);
        }
        return lawfulRounds(n);
    }

    /** Rings rounds in which nobody misses: who drifted in them. */
    private int ringAll(State state, int n) {
        int who = 0;
        for (int k = 0; k < n; k++) {
            tower.ring(state, 0);
            who |= state.drifted;
        }
        return who;
    }

    private boolean canBeDone(int act) {
        if (tower.bells == 0 || act >= acts.many) {
            return false;
        }
        int value = acts.values[act];
        if (acts.kinds[act] == Night.ROUNDS) {
            return value <= LONG;
        }
        return acts.kinds[act] == Night.BEER ? tower.hasRinger(value) : tower.hasAll(value);
    }

    private void doAct(int act) {
        int value = acts.values[act];
        if (acts.kinds[act] == Night.ROUNDS) {
            ringAll(live, value);
        } else if (acts.kinds[act] == Night.BEER) {
            live.drink(value);
        } else {
            tower.ring(live, value);
        }
    }

    /** The order that the text tells, or which sign can't stand. */
    private int readOrder() {
        int order = inPlaceOrder();
        int seen = 0;
        for (int place = 0; place < tower.bells; place++) {
            int bell = text.at(place, tower.bells) - 'a';
            if (!tower.hasRinger(bell) || bit(seen, bell) == 1) {
                return cannotStand(place);
            }
            seen |= 1 << bell;
            order = withBell(order, place, bell);
        }
        return text.at(tower.bells, tower.bells) == Text.END ? order : cannotStand(tower.bells);
    }

    /** Puts into wanted who was not heard, by the text: in how many rounds, or which sign can't stand. */
    private int readGaps() {
        lookAhead(HEARD_AT_ONCE);
        int n = 0;
        int sign = text.at(n, HEARD_AT_ONCE);
        while (n < HEARD_AT_ONCE && (sign == '-' || tower.hasRinger(sign - '1'))) {
            wanted[n] = sign == '-' ? 0 : 1 << bellAt(ahead[n], sign - '1');
            n++;
            sign = text.at(n, HEARD_AT_ONCE);
        }
        return sign == Text.END && n > 0 ? n : cannotStand(n);
    }

    /** In how many rounds somebody drifts first; with the wearied, the most tired that may miss does. */
    private int firstDrift(boolean wearied) {
        if (tower.bells == 0) {
            return NO_ANSWER;
        }
        trial.copy(live);
        for (int n = 1; n <= FAR; n++) {
            tower.ring(trial, wearied ? tower.mostTiredThatMay(trial) : 0);
            if (trial.drifted != 0) {
                told.begin();
                told.add(trial.drifted);
                return n;
            }
        }
        return NO_ANSWER;
    }

    private int driftingAfter(int beers, int n) {
        trial.copy(live);
        for (int i = 0; i < tower.bells; i++) {
            for (int b = 0; b < beers; b++) {
                trial.drink(i);
            }
        }
        return ringAll(trial, n);
    }

    private int weariness(int ringer) {
        return trial.tired[ringer] + 100 * (trial.drifts[ringer] - live.drifts[ringer]);
    }

    /** The text: what is told sign by sign, till a call reads it. */
    private static final class Text {
        static final int END = -1;
        static final int TOO_MANY = -2;
        static final int MOST = 80;

        final int[] signs = new int[MOST];
        int length;

        boolean addFour(int v) {
            if (length + 4 > MOST) {
                return false;
            }
            for (int shift = 24; shift >= 0; shift -= 8) {
                signs[length] = (v >> shift) & 255;
                length++;
            }
            return true;
        }

        boolean cutTo(int n) {
            if (n < 0 || n > length) {
                return false;
            }
            length = n;
            return true;
        }

        void clear() {
            length = 0;
        }

        /** The sign at a place; END behind the last, TOO_MANY for one that is more than there may be. */
        int at(int p, int most) {
            if (p < 0 || p >= length) {
                return END;
            }
            return p < most ? signs[p] : TOO_MANY;
        }
    }

    /** The row: numbers told last. */
    private static final class Told {
        final int[] numbers = new int[16];
        int size;

        void begin() {
            size = 0;
        }

        void add(int number) {
            if (size < numbers.length) {
                numbers[size] = number;
                size++;
            }
        }
    }

    /** All that a round changes, so that it can be kept, undone and tried. */
    private static final class State {
        final int[] tired = new int[MOST_BELLS];
        final int[] slept = new int[MOST_BELLS];
        final int[] drifts = new int[MOST_BELLS];
        final int[] heard = new int[REMEMBERED];
        int order = inPlaceOrder();
        int now;
        int deaths;
        int who;
        int where;
        int drifted;

        void begin() {
            Arrays.fill(tired, 0);
            Arrays.fill(slept, 0);
            Arrays.fill(drifts, 0);
            Arrays.fill(heard, 0);
            order = inPlaceOrder();
            now = 0;
            deaths = 0;
            who = 0;
            where = 0;
            drifted = 0;
        }

        void copy(State other) {
            System.arraycopy(other.tired, 0, tired, 0, MOST_BELLS);
            System.arraycopy(other.slept, 0, slept, 0, MOST_BELLS);
            System.arraycopy(other.drifts, 0, drifts, 0, MOST_BELLS);
            System.arraycopy(other.heard, 0, heard, 0, REMEMBERED);
            order = other.order;
            now = other.now;
            deaths = other.deaths;
            who = other.who;
            where = other.where;
            drifted = other.drifted;
        }

        void drink(int ringer) {
            tired[ringer] = Math.max(0, tired[ringer] - A_BEER);
        }

        int tiredOf(int those) {
            int all = 0;
            for (int i = 0; i < MOST_BELLS; i++) {
                all += bit(those, i) * tired[i];
            }
            return all;
        }

        // Every round since the tower was told counts in now, so now tells where in heard it stands.

        boolean knows(int k) {
            return k >= 1 && k <= REMEMBERED && k <= now;
        }

        int missedIn(int k) {
            return knows(k) ? heard[Math.floorMod(now - k, REMEMBERED)] : 0;
        }

        void goOn(int those, int places, int nextOrder) {
            heard[Math.floorMod(now, REMEMBERED)] = those;
            who = those;
            where = places;
            order = nextOrder;
            now++;
        }
    }

    /** The method: the places told by each change, as bits. */
    private static final class Changes {
        static final int MOST_SIGNS = 60;
        static final int MOST = 20;

        final int[] stay = new int[MOST];
        final int[] draft = new int[MOST];
        int many = 1;

        int read(Text text, int bells) {
            if (text.length == 0) {
                useX();
                return many;
            }
            int p = 0;
            for (int k = 0; k < MOST; k++) {
                int next = readChange(text, p, bells, k);
                if (next == p) {
                    return cannotStand(p);
                }
                p = next;
                int sign = text.at(p, MOST_SIGNS);
                if (sign == Text.END) {
                    return take(k + 1);
                }
                if (sign != '.') {
                    return cannotStand(p);
                }
                p++;
            }
            return cannotStand(p);
        }

        /** Reads change k at p into the draft: where it ends; p, if none can begin there. */
        private int readChange(Text text, int p, int bells, int k) {
            draft[k] = 0;
            if (text.at(p, MOST_SIGNS) == 'x') {
                return p + 1;
            }
            int next = p;
            for (int i = 0; i < MOST_BELLS; i++) {
                int place = text.at(next, MOST_SIGNS) - '1';
                if (place < 0 || place >= bells || (draft[k] >> place) != 0) {
                    return next;
                }
                draft[k] |= 1 << place;
                next++;
            }
            return next;
        }

        private int take(int read) {
            System.arraycopy(draft, 0, stay, 0, MOST);
            many = read;
            return many;
        }

        void useX() {
            stay[0] = 0;
            many = 1;
        }

        private int changeAt(int now) {
            return many < 1 ? 0 : Math.floorMod(now, many);
        }

        boolean sameChange(int now, int then) {
            return changeAt(now) == changeAt(then);
        }

        int next(int order, int bells, int now) {
            int told = stay[changeAt(now)];
            int changed = order;
            int place = 0;
            while (place + 1 < bells) {
                if (((told >> place) & 3) == 0) {
                    int here = bellAt(changed, place);
                    int behind = bellAt(changed, place + 1);
                    changed = withBell(withBell(changed, place, behind), place + 1, here);
                    place += 2;
                } else {
                    place++;
                }
            }
            return changed;
        }
    }

    /** The rule, kept with each operator behind what it works on. */
    private static final class Rule {
        static final int MOST_SIGNS = 40;
        static final int DEEPEST = 4;
        static final int DIGITS = 3;
        static final String THINGS = "wtprism";
        static final int THING = 1000;
        static final int NEGATE = 1100;
        static final int OPERATOR = 2000;

        final int[] codes = new int[MOST_SIGNS];
        final int[] draft = new int[MOST_SIGNS];
        final int[] stack = new int[MOST_SIGNS];
        final int[] things = new int[THINGS.length()];
        int size;
        int drafted;
        int at;

        int read(Text text) {
            if (text.length == 0) {
                size = 0;
                return 0;
            }
            at = 0;
            drafted = 0;
            if (!readExpression(text, 0) || peek(text) != Text.END) {
                return cannotStand(at);
            }
            System.arraycopy(draft, 0, codes, 0, MOST_SIGNS);
            size = drafted;
            return 0;
        }

        private int peek(Text text) {
            return text.at(at, MOST_SIGNS);
        }

        private void write(int code) {
            if (drafted < MOST_SIGNS) {
                draft[drafted] = code;
                drafted++;
            }
        }

        private boolean readExpression(Text text, int depth) {
            if (depth > DEEPEST || !readSum(text, depth)) {
                return false;
            }
            int sign = peek(text);
            if (sign != '<' && sign != '>' && sign != '=') {
                return true;
            }
            at++;
            if (!readSum(text, depth)) {
                return false;
            }
            write(OPERATOR + sign);
            return true;
        }

        private boolean readSum(Text text, int depth) {
            boolean good = readProduct(text, depth);
            for (int i = 0; i < MOST_SIGNS && good; i++) {
                int sign = peek(text);
                if (sign != '+' && sign != '-') {
                    return true;
                }
                at++;
                good = readProduct(text, depth);
                write(OPERATOR + sign);
            }
            return good;
        }

        private boolean readProduct(Text text, int depth) {
            boolean good = readFactor(text, depth);
            for (int i = 0; i < MOST_SIGNS && good; i++) {
                int sign = peek(text);
                if (sign != '*' && sign != '/') {
                    return true;
                }
                at++;
                good = readFactor(text, depth);
                write(OPERATOR + sign);
            }
            return good;
        }

        private boolean readFactor(Text text, int depth) {
            int minuses = 0;
            while (minuses < MOST_SIGNS && peek(text) == '-') {
                minuses++;
                at++;
            }
            boolean good = readThing(text, depth);
            if (minuses % 2 == 1) {
                write(NEGATE);
            }
            return good;
        }

        private boolean readThing(Text text, int depth) {
            int sign = peek(text);
            if (sign == '(') {
                return readInside(text, depth);
            }
            if (sign >= '0' && sign <= '9') {
                readNumber(text);
                return true;
            }
            int thing = sign < 0 ? -1 : THINGS.indexOf((char) sign);
            if (thing < 0) {
                return false;
            }
            write(THING + thing);
            at++;
            return true;
        }

        private boolean readInside(Text text, int depth) {
            if (depth >= DEEPEST) {
                return false;
            }
            at++;
            if (!readExpression(text, depth + 1) || peek(text) != ')') {
                return false;
            }
            at++;
            return true;
        }

        private void readNumber(Text text) {
            int number = 0;
            int sign = peek(text);
            for (int i = 0; i < DIGITS && sign >= '0' && sign <= '9'; i++) {
                number = number * 10 + sign - '0';
                at++;
                sign = peek(text);
            }
            write(number);
        }

        /** What the rule answers for the things as they are put. */
        int value() {
            if (size == 0) {
                return things[0] / 2 + 1;
            }
            int top = 0;
            for (int k = 0; k < size; k++) {
                int code = codes[k];
                if (code < NEGATE) {
                    stack[top] = code < THING ? code : things[code - THING];
                    top++;
                } else if (code == NEGATE && top >= 1) {
                    stack[top - 1] = -stack[top - 1];
                } else if (top >= 2) {
                    top--;
                    stack[top - 1] = worked(code - OPERATOR, stack[top - 1], stack[top]);
                }
            }
            return stack[0];
        }

        private static int worked(int sign, int a, int b) {
            switch (sign) {
                case '+':
                    return a + b;
                case '-':
                    return a - b;
                case '*':
                    return a * b;
                case '/':
                    return b == 0 ? 0 : a / b;
                case '<':
                    return a < b ? 1 : 0;
                case '>':
                    return a > b ? 1 : 0;
                default:
                    return a == b ? 1 : 0;
            }
        }
    }

    /** The tower: its bells, its law, how a round goes by in it. */
    private static final class Tower {
        final int[] weights = new int[MOST_BELLS];
        final Changes changes = new Changes();
        final Rule rule = new Rule();
        int bells;
        int tenor = NONE;
        int most = 1;
        int rest = 9;

        int readWeights(Text text) {
            int n = 0;
            int sign = text.at(n, MOST_BELLS);
            while (n < MOST_BELLS && sign >= '1' && sign <= '9') {
                n++;
                sign = text.at(n, MOST_BELLS);
            }
            if (sign != Text.END || n < FEWEST_BELLS) {
                return cannotStand(n);
            }
            bells = n;
            tenor = 0;
            for (int i = 0; i < n; i++) {
                weights[i] = text.at(i, MOST_BELLS) - '0';
                tenor = weights[i] >= weights[tenor] ? i : tenor;
            }
            changes.useX();
            return n;
        }

        /** As many places as ringers: this tells of places, too. */
        boolean hasRinger(int ringer) {
            return ringer >= 0 && ringer < bells;
        }

        boolean hasTwo(int one, int other) {
            return hasRinger(one) && hasRinger(other) && one != other;
        }

        boolean hasAll(int those) {
            return those >= 0 && those < 1 << bells;
        }

        /** The first part of the law that is not so; 0, if all are. */
        int breach(int order, int now, int those, int who, int where) {
            if (Integer.bitCount(those) > most) {
                return 1;
            }
            if ((those & who) != 0) {
                return 2;
            }
            int places = placesOf(order, those);
            if ((places & (places >> 1)) != 0) {
                return 3;
            }
            if ((places & where) != 0) {
                return 4;
            }
            return now % 7 == 0 && tenor >= 0 && bit(those, tenor) == 1 ? 5 : 0;
        }

        int moreTired(State state, int ringer, int missing) {
            rule.things[0] = weights[ringer];
            rule.things[1] = state.tired[ringer];
            rule.things[2] = placeOf(state.order, ringer);
            rule.things[3] = state.now;
            rule.things[4] = ringer;
            rule.things[5] = state.slept[ringer];
            rule.things[6] = missing;
            return put(rule.value());
        }

        /** A round goes by: the first part of the law that was not so, 0 if all were. */
        int ring(State state, int those) {
            int part = breach(state.order, state.now, those, state.who, state.where);
            state.deaths += part == 0 ? 0 : 1;
            state.drifted = 0;
            int missing = Integer.bitCount(those);
            for (int i = 0; i < bells; i++) {
                if (bit(those, i) == 1) {
                    state.slept[i]++;
                    state.tired[i] = Math.max(0, state.tired[i] - rest);
                } else {
                    int tired = state.tired[i] + moreTired(state, i, missing);
                    state.drifted |= tired > MOST_TIRED ? 1 << i : 0;
                    state.drifts[i] += tired > MOST_TIRED ? 1 : 0;
                    state.tired[i] = Math.min(MOST_TIRED, tired);
                }
            }
            state.goOn(those, placesOf(state.order, those), changes.next(state.order, bells, state.now));
            return part;
        }

        /** Of those that may miss alone the one with the greatest tired, as a set. */
        int mostTiredThatMay(State state) {
            int best = NONE;
            for (int i = 0; i < bells; i++) {
                boolean mayMiss = breach(state.order, state.now, 1 << i, state.who, state.where) == 0;
                if (mayMiss && (best == NONE || state.tired[i] > state.tired[best])) {
                    best = i;
                }
            }
            return best == NONE ? 0 : 1 << best;
        }
    }

    /** What can be undone: states ahead of the latest calls, the oldest one given up first. */
    private static final class Past {
        final State[] states = new State[UNDONE];
        int first;
        int size;

        Past() {
            for (int i = 0; i < UNDONE; i++) {
                states[i] = new State();
            }
        }

        void push(State live) {
            if (size == UNDONE) {
                first = (first + 1) % UNDONE;
                size--;
            }
            states[(first + size) % UNDONE].copy(live);
            size++;
        }

        boolean pop(State live) {
            if (size == 0) {
                return false;
            }
            size--;
            live.copy(states[(first + size) % UNDONE]);
            return true;
        }

        void forget() {
            size = 0;
        }
    }

    /** What is kept under the numbers 0 and 1. */
    private static final class Kept {
        static final int MOST = 2;

        final State[] states = new State[MOST];
        final boolean[] there = new boolean[MOST];

        Kept() {
            for (int i = 0; i < MOST; i++) {
                states[i] = new State();
            }
        }

        boolean put(int i, State live) {
            if (i < 0 || i >= MOST) {
                return false;
            }
            states[i].copy(live);
            there[i] = true;
            return true;
        }

        boolean restore(int i, State live) {
            if (i < 0 || i >= MOST || !there[i]) {
                return false;
            }
            live.copy(states[i]);
            return true;
        }

        void forget() {
            there[0] = false;
            there[1] = false;
        }
    }

    /** A night as told by a text: acts, none of them done yet. */
    private static final class Night {
        static final int ROUND = 0;
        static final int ROUNDS = 1;
        static final int BEER = 2;
        static final int MOST_SIGNS = 60;
        static final int MOST = (MOST_SIGNS + 1) / 2;

        final int[] kinds = new int[MOST];
        final int[] values = new int[MOST];
        int many;

        /** How many acts the text tells, or which sign can't stand. */
        int read(Text text) {
            many = 0;
            int p = 0;
            for (int k = 0; k < MOST && text.length > 0; k++) {
                p = readAct(text, p);
                if (p < 0) {
                    many = 0;
                    return p;
                }
                int sign = text.at(p, MOST_SIGNS);
                if (sign == Text.END) {
                    return many;
                }
                if (sign != ';') {
                    many = 0;
                    return cannotStand(p);
                }
                p++;
            }
            many = 0;
            return text.length == 0 ? 0 : cannotStand(p);
        }

        /** Reads an act at p: where it ends, or which sign can't stand. */
        private int readAct(Text text, int p) {
            int sign = text.at(p, MOST_SIGNS);
            if (sign == '-') {
                write(ROUND, 0);
                return p + 1;
            }
            if (sign == 'r') {
                return readRounds(text, p + 1);
            }
            if (sign == '!') {
                int ringer = text.at(p + 1, MOST_SIGNS) - 'a';
                write(BEER, ringer);
                return isLetter(ringer) ? p + 2 : cannotStand(p + 1);
            }
            return readMissing(text, p);
        }

        private int readRounds(Text text, int p) {
            int number = 0;
            int next = p;
            for (int i = 0; i < 2; i++) {
                int digit = text.at(next, MOST_SIGNS) - '0';
                if (digit >= 0 && digit <= 9) {
                    number = number * 10 + digit;
                    next++;
                }
            }
            write(ROUNDS, number);
            return next > p ? next : cannotStand(p);
        }

        private int readMissing(Text text, int p) {
            int those = 0;
            int next = p;
            int ringer = text.at(next, MOST_SIGNS) - 'a';
            while (next < MOST_SIGNS && isLetter(ringer)) {
                if (bit(those, ringer) == 1) {
                    return cannotStand(next);
                }
                those |= 1 << ringer;
                next++;
                ringer = text.at(next, MOST_SIGNS) - 'a';
            }
            write(ROUND, those);
            return next > p ? next : cannotStand(p);
        }

        private static boolean isLetter(int ringer) {
            return ringer >= 0 && ringer < MOST_BELLS;
        }

        private void write(int kind, int value) {
            if (many < MOST) {
                kinds[many] = kind;
                values[many] = value;
                many++;
            }
        }
    }

    /** Pairs of ringers, and how many lawful rounds each pair gives. */
    private static final class Pairs {
        final int[][] worth = new int[MOST_BELLS][MOST_BELLS];
        final int[] best = new int[1 << MOST_BELLS];
        int those;

        void begin(int ringers) {
            those = ringers;
        }

        boolean both(int one, int other) {
            return bit(those, one) == 1 && bit(those, other) == 1;
        }

        void put(int one, int other, int rounds) {
            worth[one][other] = rounds;
            worth[other][one] = rounds;
        }

        /** The most rounds in all; the row tells of each ringer with whom. */
        int match(int bells, Told told) {
            for (int left = 1; left <= those; left++) {
                if ((left & ~those) == 0) {
                    best[left] = bestOf(left);
                }
            }
            told.begin();
            int left = those;
            int partners = 0;
            for (int i = 0; i < bells; i++) {
                if (bit(left, i) == 0) {
                    told.add(bit(those, i) == 0 ? NONE : bellAt(partners, i) - 1);
                    continue;
                }
                int partner = leastPartner(left, i);
                left &= ~(1 << i);
                told.add(partner);
                if (partner != NONE) {
                    left &= ~(1 << partner);
                    partners = withBell(partners, partner, i + 1);
                }
            }
            return best[those];
        }

        /** The most rounds that ringers give when the first of them is parted off in the best way. */
        private int bestOf(int left) {
            int first = firstOf(left);
            int most = 0;
            for (int partner = NONE; partner < MOST_BELLS; partner++) {
                most = Math.max(most, withPartner(left, first, partner));
            }
            return most;
        }

        private int leastPartner(int left, int first) {
            int partner = NONE;
            while (partner < MOST_BELLS - 1 && withPartner(left, first, partner) != best[left]) {
                partner++;
            }
            return partner;
        }

        /** What ringers give if the first of them is with a partner, or left over; -1, if it can't be. */
        private int withPartner(int left, int first, int partner) {
            int others = left & ~(1 << first);
            if (partner == NONE) {
                return Integer.bitCount(left) % 2 == 1 ? best[others] : -1;
            }
            if (bit(others, partner) == 0) {
                return -1;
            }
            return worth[first][partner] + best[others & ~(1 << partner)];
        }
    }

    /** Plans of who misses in rounds to come, all lawful. */
    private static final class Plan {
        static final int NAPPING = 5;
        static final int SETS = 1 << MOST_BELLS;
        static final int NAPS = 1 << (2 * NAPPING);

        // Of each round the sets that the law allows but for the round ahead, rising, and their places.
        final int[][] sets = new int[PLANNED][SETS];
        final int[] many = new int[PLANNED];
        final int[][] where = new int[PLANNED][SETS];
        final int[][] best = new int[PLANNED + 1][SETS];
        // By rounds gone and naps had (two bits a ringer): which sets may have been the latest, as bits.
        final int[][] latest = new int[PLANNED + 1][NAPS];
        // By rounds gone and the set that misses next: behind which latest sets it may, as bits.
        final int[][] before = new int[PLANNED][1 << NAPPING];
        int enough;

        void prepare(Tower tower, int[] ahead, int now, int n) {
            for (int k = 0; k < n; k++) {
                many[k] = 0;
                for (int those = 0; those < 1 << tower.bells; those++) {
                    if (tower.breach(ahead[k], now + k, those, 0, 0) == 0) {
                        sets[k][many[k]] = those;
                        many[k]++;
                        where[k][those] = placesOf(ahead[k], those);
                    }
                }
            }
        }

        /** Whether a set may miss in round k behind a round in which those missed in these places. */
        private boolean mayFollow(int k, int those, int who, int places) {
            return (those & who) == 0 && (where[k][those] & places) == 0;
        }

        int mostMissed(State live, int n, Told told) {
            Arrays.fill(best[n], 0);
            for (int k = n - 1; k >= 1; k--) {
                for (int j = 0; j < many[k - 1]; j++) {
                    int who = sets[k - 1][j];
                    best[k][who] = worth(k, bestSet(k, who, where[k - 1][who]));
                }
            }
            told.begin();
            int who = live.who;
            int places = live.where;
            int all = 0;
            for (int k = 0; k < n; k++) {
                int those = bestSet(k, who, places);
                told.add(those);
                all += Integer.bitCount(those);
                who = those;
                places = where[k][those];
            }
            return all;
        }

        private int worth(int k, int those) {
            return Integer.bitCount(those) + best[k + 1][those];
        }

        /** The least of the sets for round k with which the most miss from then on; nobody may always miss. */
        private int bestSet(int k, int who, int places) {
            int found = 0;
            for (int j = 0; j < many[k]; j++) {
                int those = sets[k][j];
                if (mayFollow(k, those, who, places) && worth(k, those) > worth(k, found)) {
                    found = those;
                }
            }
            return found;
        }

        /** In how many rounds at the least each ringer has had s naps; the row tells the sets. */
        int fewestRounds(State live, int bells, int s, int n, Told told) {
            enough = s;
            int full = 0;
            for (int i = 0; i < bells && i < NAPPING; i++) {
                full |= s << (2 * i);
            }
            beginNaps(live, n);
            int m = 1;
            while (m < n && latest[m][full] == 0) {
                widen(m);
                m++;
            }
            if (latest[m][full] == 0) {
                return NO_ANSWER;
            }
            narrow(m, full);
            tellNaps(live, m, told);
            return m;
        }

        private void beginNaps(State live, int n) {
            for (int k = 0; k <= n; k++) {
                Arrays.fill(latest[k], 0);
            }
            for (int k = 1; k < n; k++) {
                for (int j = 0; j < many[k]; j++) {
                    before[k][sets[k][j]] = setsBefore(k, sets[k][j]);
                }
            }
            for (int j = 0; j < many[0]; j++) {
                int those = sets[0][j];
                if (mayFollow(0, those, live.who, live.where)) {
                    latest[1][napsWith(0, those)] |= 1 << those;
                }
            }
        }

        /** The sets of the round ahead of k behind which those may miss, as bits. */
        private int setsBefore(int k, int those) {
            int all = 0;
            for (int j = 0; j < many[k - 1]; j++) {
                int who = sets[k - 1][j];
                all |= mayFollow(k, those, who, where[k - 1][who]) ? 1 << who : 0;
            }
            return all;
        }

        /** From all that can be had behind k rounds: all that can be had behind one more. */
        private void widen(int k) {
            for (int naps = 0; naps < NAPS; naps++) {
                if (latest[k][naps] != 0) {
                    widenFrom(k, naps);
                }
            }
        }

        private void widenFrom(int k, int naps) {
            for (int j = 0; j < many[k]; j++) {
                int those = sets[k][j];
                if ((latest[k][naps] & before[k][those]) != 0) {
                    latest[k + 1][napsWith(naps, those)] |= 1 << those;
                }
            }
        }

        /** Leaves only what leads to all having slept enough behind m rounds. */
        private void narrow(int m, int full) {
            for (int naps = 0; naps < NAPS; naps++) {
                latest[m][naps] = naps == full ? latest[m][naps] : 0;
            }
            for (int k = m - 1; k >= 1; k--) {
                for (int naps = 0; naps < NAPS; naps++) {
                    if (latest[k][naps] != 0) {
                        latest[k][naps] &= leadingOn(k, naps);
                    }
                }
            }
        }

        /** The sets of the round ahead of k from which a set for round k still leads on, as bits. */
        private int leadingOn(int k, int naps) {
            int all = 0;
            for (int j = 0; j < many[k]; j++) {
                int those = sets[k][j];
                all |= leadsOn(k, naps, those) ? before[k][those] : 0;
            }
            return all;
        }

        private boolean leadsOn(int k, int naps, int those) {
            return bit(latest[k + 1][napsWith(naps, those)], those) == 1;
        }

        /** The least set for round k that still leads on; NONE, if there is none. */
        private int nextSet(int k, int naps, int who, int places) {
            for (int j = 0; j < many[k]; j++) {
                int those = sets[k][j];
                if (mayFollow(k, those, who, places) && leadsOn(k, naps, those)) {
                    return those;
                }
            }
            return NONE;
        }

        private void tellNaps(State live, int m, Told told) {
            told.begin();
            int who = live.who;
            int places = live.where;
            int naps = 0;
            for (int k = 0; k < m; k++) {
                int those = Math.max(0, nextSet(k, naps, who, places));
                told.add(those);
                naps = napsWith(naps, those);
                who = those;
                places = where[k][those];
            }
        }

        /** Naps had when those have one more; no more than enough are counted. */
        private int napsWith(int naps, int those) {
            int all = naps;
            for (int i = 0; i < NAPPING; i++) {
                if (bit(those, i) == 1 && ((naps >> (2 * i)) & 3) < enough) {
                    all += 1 << (2 * i);
                }
            }
            return all;
        }
    }
}
