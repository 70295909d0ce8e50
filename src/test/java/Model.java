import java.util.ArrayList;
import java.util.Arrays;
import java.util.HashMap;
import java.util.List;
import java.util.Map;
import java.util.NoSuchElementException;
import java.util.function.Predicate;
import java.util.regex.Matcher;
import java.util.regex.Pattern;

/** The document once more, written in the slow and plain way, as an oracle for random runs. */
final class Model {
    /** All that a round changes. */
    static final class Now {
        List<Integer> order = new ArrayList<>();
        int now;
        int deaths;
        int[] tired;
        int[] slept;
        int[] drifts;
        List<Integer> who = new ArrayList<>();
        List<Integer> places = new ArrayList<>();
        List<Integer> heard = new ArrayList<>();
        List<Integer> drifted = new ArrayList<>();

        Now(int bells) {
            for (int i = 0; i < bells; i++) {
                order.add(i);
            }
            tired = new int[bells];
            slept = new int[bells];
            drifts = new int[bells];
        }

        Now twin() {
            Now n = new Now(0);
            n.order = new ArrayList<>(order);
            n.now = now;
            n.deaths = deaths;
            n.tired = tired.clone();
            n.slept = slept.clone();
            n.drifts = drifts.clone();
            n.who = new ArrayList<>(who);
            n.places = new ArrayList<>(places);
            n.heard = new ArrayList<>(heard);
            return n;
        }
    }

    String text = "";
    List<Integer> row = new ArrayList<>();
    String weights = "";
    String[] changes = {"x"};
    String rule = "";
    int most = 1;
    int rest = 9;
    Now live = new Now(0);
    List<Now> undo = new ArrayList<>();
    Now[] kept = new Now[2];

    int bells() {
        return weights.length();
    }

    static int bits(List<Integer> those) {
        int all = 0;
        for (int i : those) {
            all |= 1 << i;
        }
        return all;
    }

    static List<Integer> list(int bits) {
        List<Integer> those = new ArrayList<>();
        for (int i = 0; i < 31; i++) {
            if ((bits >> i & 1) == 1) {
                those.add(i);
            }
        }
        return those;
    }

    void tell(Integer... numbers) {
        row = new ArrayList<>(Arrays.asList(numbers));
    }

    boolean is(int ringer) {
        return 0 <= ringer && ringer < bells();
    }

    boolean areAll(int those) {
        return those >= 0 && those < Math.pow(2, bells());
    }

    // ---- the law, a round

    int weight(int ringer) {
        return weights.charAt(ringer) - '0';
    }

    int tenor() {
        int t = -1;
        for (int i = 0; i < bells(); i++) {
            if (t < 0 || weight(i) >= weight(t)) {
                t = i;
            }
        }
        return t;
    }

    int broken(Now s, List<Integer> those) {
        if (those.size() > most) {
            return 1;
        }
        for (int a : those) {
            if (s.who.contains(a)) {
                return 2;
            }
        }
        for (int a : those) {
            for (int b : those) {
                if (Math.abs(s.order.indexOf(a) - s.order.indexOf(b)) == 1) {
                    return 3;
                }
            }
        }
        for (int a : those) {
            if (s.places.contains(s.order.indexOf(a))) {
                return 4;
            }
        }
        return those.contains(tenor()) && s.now % 7 == 0 ? 5 : 0;
    }

    int more(Now s, int i, int missing) {
        String text = rule.isEmpty() ? "w/2+1" : rule;
        int[] of = {weight(i), s.tired[i], s.order.indexOf(i), s.now, i, s.slept[i], missing};
        return Math.min(99, Math.max(0, worth(text, of)));
    }

    int ring(Now s, List<Integer> those) {
        int part = broken(s, those);
        if (part > 0) {
            s.deaths++;
        }
        s.drifted = new ArrayList<>();
        for (int i = 0; i < bells(); i++) {
            if (!those.contains(i)) {
                int t = s.tired[i] + more(s, i, those.size());
                if (t > 99) {
                    s.drifts[i]++;
                    s.drifted.add(i);
                    t = 99;
                }
                s.tired[i] = t;
            }
        }
        s.places = new ArrayList<>();
        for (int i : those) {
            s.slept[i]++;
            s.tired[i] = Math.max(0, s.tired[i] - rest);
            s.places.add(s.order.indexOf(i));
        }
        s.who = new ArrayList<>(those);
        s.heard.add(0, bits(those));
        turn(s);
        return part;
    }

    void turn(Now s) {
        String change = changes[s.now % changes.length];
        boolean[] done = new boolean[bells()];
        for (int p = 0; p < bells(); p++) {
            done[p] = change.contains("" + (p + 1));
        }
        for (int p = 0; p + 1 < bells(); p++) {
            if (!done[p] && !done[p + 1]) {
                done[p] = true;
                done[p + 1] = true;
                int here = s.order.get(p);
                s.order.set(p, s.order.get(p + 1));
                s.order.set(p + 1, here);
            }
        }
        s.now++;
    }

    Now behind(int n) {
        Now s = live.twin();
        for (int i = 0; i < n; i++) {
            ring(s, List.of());
        }
        return s;
    }

    List<List<Integer>> orders(int n) {
        Now s = live.twin();
        List<List<Integer>> all = new ArrayList<>();
        for (int i = 0; i <= n; i++) {
            all.add(new ArrayList<>(s.order));
            turn(s);
        }
        return all;
    }

    // ---- rules told as texts

    /** Where a sign can't stand first by a walk through the text; -1 if the text is whole. */
    static int ruleWrongAt(String text) {
        List<Boolean> compared = new ArrayList<>(List.of(false));
        boolean due = true;
        int digits = 0;
        for (int p = 0; p < text.length(); p++) {
            char c = text.charAt(p);
            if (p >= 40) {
                return p;
            }
            int top = compared.size() - 1;
            boolean digit = c >= '0' && c <= '9';
            if (digit && (due || digits > 0 && digits < 3)) {
                digits = due ? 1 : digits + 1;
                due = false;
            } else if (due && "wtprism".indexOf(c) >= 0) {
                due = false;
                digits = 0;
            } else if (due && c == '(' && top < 4) {
                compared.add(false);
            } else if (due && c == '-') {
                digits = 0;
            } else if (!due && "+-*/".indexOf(c) >= 0) {
                due = true;
            } else if (!due && "<>=".indexOf(c) >= 0 && !compared.get(top)) {
                compared.set(top, true);
                due = true;
            } else if (!due && c == ')' && top > 0) {
                compared.remove(top);
                digits = 0;
            } else {
                return p;
            }
        }
        return due || compared.size() > 1 ? text.length() : -1;
    }

    static int worth(String e, int[] of) {
        for (String signs : new String[] {"<>=", "+-", "*/"}) {
            int depth = 0;
            for (int p = e.length() - 1; p > 0; p--) {
                char c = e.charAt(p);
                depth += c == ')' ? 1 : c == '(' ? -1 : 0;
                boolean behindThing = "+-*/<>=(".indexOf(e.charAt(p - 1)) < 0;
                if (depth == 0 && signs.indexOf(c) >= 0 && behindThing) {
                    return done(c, worth(e.substring(0, p), of), worth(e.substring(p + 1), of));
                }
            }
        }
        if (e.startsWith("-")) {
            return -worth(e.substring(1), of);
        }
        if (e.startsWith("(")) {
            return worth(e.substring(1, e.length() - 1), of);
        }
        int thing = "wtprism".indexOf(e);
        return thing >= 0 ? of[thing] : Integer.parseInt(e);
    }

    static int done(char c, int a, int b) {
        return switch (c) {
            case '+' -> a + b;
            case '-' -> a - b;
            case '*' -> a * b;
            case '/' -> b == 0 ? 0 : (int) ((long) a / b);
            case '<' -> a < b ? 1 : 0;
            case '>' -> a > b ? 1 : 0;
            default -> a == b ? 1 : 0;
        };
    }

    // ---- texts

    /** The first place at which the text can't go on to anything whole; -1 if it is whole. */
    static int wrongAt(String text, Pattern whole, Predicate<String> goesOn) {
        for (int p = 0; p < text.length(); p++) {
            Matcher m = whole.matcher(text.substring(0, p + 1));
            boolean matches = m.matches();
            if (!matches && !m.hitEnd() || !goesOn.test(text.substring(0, p + 1))) {
                return p;
            }
        }
        return whole.matcher(text).matches() ? -1 : text.length();
    }

    String take() {
        String t = text;
        text = "";
        return t;
    }

    int sign(int v) {
        if (text.length() + 4 > 80) {
            return -1;
        }
        for (int i = 3; i >= 0; i--) {
            text += (char) (v >>> 8 * i & 255);
        }
        return text.length();
    }

    boolean end(int n) {
        boolean can = n >= 0 && n <= text.length();
        text = can ? text.substring(0, n) : text;
        return can;
    }

    int tower() {
        String t = take();
        int p = wrongAt(t, Pattern.compile("[1-9]{3,7}"), s -> true);
        if (p >= 0) {
            return -1 - p;
        }
        weights = t;
        changes = new String[] {"x"};
        live = new Now(bells());
        undo.clear();
        kept = new Now[2];
        return bells();
    }

    int method() {
        String t = take();
        if (!t.isEmpty()) {
            StringBuilder rising = new StringBuilder();
            for (int i = 1; i <= bells(); i++) {
                rising.append(i).append('?');
            }
            String one = bells() == 0 ? "x" : "(x|(?=[1-7])" + rising + ")";
            Pattern whole = Pattern.compile(one + "(\\." + one + ")*");
            int p = wrongAt(t, whole, s -> s.length() <= 60
                && (s.chars().filter(c -> c == '.').count() < 20 || s.endsWith(".") && s.chars().filter(c -> c == '.').count() == 20));
            if (p >= 0) {
                return -1 - p;
            }
        }
        changes = t.isEmpty() ? new String[] {"x"} : t.split("\\.");
        undo.clear();
        kept = new Now[2];
        return changes.length;
    }

    int rule() {
        String t = take();
        int p = t.isEmpty() ? -1 : ruleWrongAt(t);
        if (p >= 0) {
            return -1 - p;
        }
        rule = t;
        return 0;
    }

    int ringer(int i, int what) {
        if (!is(i)) {
            throw new NoSuchElementException();
        }
        return switch (what) {
            case 0 -> weight(i);
            case 1 -> live.tired[i];
            case 2 -> live.slept[i];
            case 3 -> live.drifts[i];
            case 4 -> live.order.indexOf(i);
            case 5 -> live.who.contains(i) ? 1 : 0;
            case 6 -> more(live, i, 0);
            default -> throw new NoSuchElementException();
        };
    }

    int bell(int place) {
        if (!is(place)) {
            throw new NoSuchElementException();
        }
        return live.order.get(place);
    }

    int set(int what, int v) {
        int was = what == 0 ? most : rest;
        if (what == 0 && v >= 1 && v <= 3) {
            most = v;
        } else if (what == 1 && v >= 1 && v <= 99) {
            rest = v;
        } else {
            return -1;
        }
        return was;
    }

    int sheet(int kind, int n, int f, int step) {
        if (kind < 0 || kind > 3 || n > 7) {
            return -1;
        }
        if (kind == 3) {
            Arrays.fill(live.tired, 0);
            return -3;
        }
        if (n < 0) {
            return -2;
        }
        int all = 0;
        int v = f;
        for (int i = 0; i < bells(); i++) {
            int w = kind == 0 ? (byte) v : kind == 1 ? (short) v : v;
            live.tired[i] = i < n ? Math.min(99, Math.max(0, w)) : 0;
            all += live.tired[i];
            v += step;
        }
        return all;
    }

    // ---- rounds

    void remember() {
        undo.add(live.twin());
        if (undo.size() > 12) {
            undo.remove(0);
        }
    }

    int sum(int[] of) {
        return Arrays.stream(of).sum();
    }

    int round(int those) {
        if (bells() == 0) {
            return -2;
        }
        if (!areAll(those)) {
            return -1;
        }
        remember();
        int part = ring(live, list(those));
        tell(bits(live.places), bits(live.drifted));
        return part;
    }

    int rounds(int n) {
        if (bells() == 0) {
            return -2;
        }
        if (n < 0 || n > 60) {
            return -1;
        }
        if (n > 0) {
            remember();
        }
        int often = 0;
        int who = 0;
        for (int i = 0; i < n; i++) {
            ring(live, List.of());
            often += live.drifted.size();
            who |= bits(live.drifted);
        }
        tell(who, live.now);
        return often;
    }

    int beer(int i) {
        if (!is(i)) {
            return -1;
        }
        remember();
        live.tired[i] = Math.max(0, live.tired[i] - 10);
        return live.tired[i];
    }

    int night() {
        String t = take();
        String act = "(-|r[0-9]{1,2}|![a-g]|[a-g]+)";
        Pattern whole = Pattern.compile(act + "(;" + act + ")*");
        if (!t.isEmpty()) {
            int p = wrongAt(t, whole, s -> {
                String last = s.substring(s.lastIndexOf(';') + 1);
                return s.length() <= 60 && (last.chars().distinct().count() == last.length() || last.startsWith("r"));
            });
            if (p >= 0) {
                return -1 - p;
            }
        }
        Now before = live.twin();
        int done = 0;
        String[] all = t.isEmpty() ? new String[0] : t.split(";");
        for (String a : all) {
            if (!act(a)) {
                break;
            }
            done++;
        }
        if (done > 0) {
            Now after = live;
            live = before;
            remember();
            live = after;
        }
        tell(done < all.length ? 1 : 0, live.deaths - before.deaths, sum(live.drifts) - sum(before.drifts));
        return done;
    }

    boolean act(String a) {
        if (bells() == 0) {
            return false;
        }
        if (a.startsWith("r")) {
            int n = Integer.parseInt(a.substring(1));
            if (n > 60) {
                return false;
            }
            live = behind(n);
        } else if (a.startsWith("!")) {
            int i = a.charAt(1) - 'a';
            if (!is(i)) {
                return false;
            }
            live.tired[i] = Math.max(0, live.tired[i] - 10);
        } else {
            List<Integer> those = new ArrayList<>();
            for (char c : a.equals("-") ? new char[0] : a.toCharArray()) {
                if (!is(c - 'a')) {
                    return false;
                }
                those.add(c - 'a');
            }
            ring(live, those);
        }
        return true;
    }

    int undo() {
        if (undo.isEmpty()) {
            return -1;
        }
        live = undo.remove(undo.size() - 1);
        return undo.size();
    }

    // ---- orders to come

    int order(int n) {
        if (bells() == 0) {
            return -2;
        }
        if (n < 0 || n > 200) {
            return -1;
        }
        row = orders(n).get(n);
        return row.get(0);
    }

    int truth() {
        List<List<Integer>> all = orders(200);
        for (int n = 1; n <= 200 && bells() > 0; n++) {
            int i = all.subList(0, n).indexOf(all.get(n));
            if (i >= 0) {
                tell(i);
                return n;
            }
        }
        return -2;
    }

    int lead() {
        List<List<Integer>> all = orders(200);
        for (int n = 1; n <= 200 && bells() > 0; n++) {
            if (all.get(n).equals(live.order) && n % changes.length == 0) {
                return n;
            }
        }
        return -2;
    }

    int leads(int bell, int place) {
        if (!is(bell) || !is(place)) {
            return -1;
        }
        List<Integer> when = new ArrayList<>();
        List<List<Integer>> all = orders(200);
        for (int n = 0; n <= 200; n++) {
            if (all.get(n).get(place) == bell) {
                when.add(n);
            }
        }
        if (when.isEmpty()) {
            return -2;
        }
        tell(when.contains(200) ? when.size() - 1 : when.size());
        return when.get(0);
    }

    int comes() {
        String t = take();
        if (bells() == 0) {
            return -100;
        }
        Pattern whole = Pattern.compile("[a-" + (char) ('a' + bells() - 1) + "]{" + bells() + "}");
        int p = wrongAt(t, whole, s -> s.chars().distinct().count() == s.length());
        if (p >= 0) {
            return -1 - p;
        }
        List<Integer> asked = new ArrayList<>();
        int same = 0;
        for (int i = 0; i < bells(); i++) {
            asked.add(t.charAt(i) - 'a');
            same += asked.get(i).equals(live.order.get(i)) ? 1 : 0;
        }
        int n = orders(200).indexOf(asked);
        if (n < 0) {
            return -2;
        }
        tell(same);
        return n;
    }

    int course(int one, int other, int n) {
        if (!is(one) || !is(other) || one == other || n < 1 || n > 200) {
            return -1;
        }
        List<Integer> when = new ArrayList<>();
        List<List<Integer>> all = orders(n);
        for (int k = 0; k < n; k++) {
            if (Math.abs(all.get(k).indexOf(one) - all.get(k).indexOf(other)) == 1) {
                when.add(k);
            }
        }
        tell(when.isEmpty() ? -1 : when.get(0));
        return when.size();
    }

    // ---- who may miss

    int may(int those) {
        return bells() == 0 ? -2 : !areAll(those) ? -1 : broken(live, list(those));
    }

    int lawful() {
        if (bells() == 0) {
            return -2;
        }
        int many = 0;
        int best = -1;
        int greatest = -1;
        int some = 0;
        for (int b = 0; areAll(b); b++) {
            if (broken(live, list(b)) == 0) {
                many++;
                int t = 0;
                for (int i : list(b)) {
                    t += live.tired[i];
                }
                if (t > greatest) {
                    greatest = t;
                    best = b;
                }
                some |= b;
            }
        }
        tell(best, some);
        return many;
    }

    int covers(int ringer) {
        if (!is(ringer)) {
            return -1;
        }
        if (broken(live, List.of(ringer)) != 0) {
            return -2;
        }
        int can = 0;
        int cannot = 0;
        for (int i = 0; i < bells(); i++) {
            if (i == ringer || broken(live, List.of(i)) != 0) {
                continue;
            }
            if (broken(live, List.of(i, ringer)) == 0) {
                can |= 1 << i;
            } else {
                cannot |= 1 << i;
            }
        }
        tell(cannot);
        return can;
    }

    int[] turns(int one, int other, int n) {
        Now s = live.twin();
        for (int k = 0; k < n; k++) {
            int part = ring(s, List.of(k % 2 == 0 ? one : other));
            if (part != 0) {
                return new int[] {k, part};
            }
        }
        return new int[] {n, 0};
    }

    int rivals(int one, int other, int n) {
        if (!is(one) || !is(other) || one == other || n < 1 || n > 60) {
            return -1;
        }
        int[] t = turns(one, other, n);
        tell(t[1]);
        return t[0];
    }

    int bestRounds;
    List<Integer> bestRow;

    int matches(int those, int n) {
        if (!areAll(those) || n < 1 || n > 60) {
            return -1;
        }
        int[][] worth = new int[7][7];
        for (int a : list(those)) {
            for (int b : list(those)) {
                worth[a][b] = a < b ? turns(a, b, n)[0] : 0;
            }
        }
        bestRounds = -1;
        Integer[] with = new Integer[bells()];
        Arrays.fill(with, -1);
        part(list(those), with, worth, 0, false);
        row = bestRow;
        return bestRounds;
    }

    void part(List<Integer> left, Integer[] with, int[][] worth, int all, boolean over) {
        if (left.isEmpty()) {
            List<Integer> r = new ArrayList<>(Arrays.asList(with));
            if (all > bestRounds || all == bestRounds && less(r, bestRow)) {
                bestRounds = all;
                bestRow = r;
            }
            return;
        }
        int a = left.get(0);
        for (int b : left.subList(1, left.size())) {
            List<Integer> rest = new ArrayList<>(left);
            rest.remove((Integer) a);
            rest.remove((Integer) b);
            with[a] = b;
            with[b] = a;
            part(rest, with, worth, all + worth[a][b], over);
            with[a] = -1;
            with[b] = -1;
        }
        if (left.size() % 2 == 1 && !over) {
            part(left.subList(1, left.size()), with, worth, all, true);
        }
    }

    static boolean less(List<Integer> a, List<Integer> b) {
        for (int i = 0; i < Math.min(a.size(), b.size()); i++) {
            if (!a.get(i).equals(b.get(i))) {
                return a.get(i) < b.get(i);
            }
        }
        return a.size() < b.size();
    }

    // ---- naps

    final Map<String, List<Integer>> plans = new HashMap<>();

    int sleeps(int n) {
        if (n < 1 || n > 12 || bells() == 0) {
            return -1;
        }
        plans.clear();
        row = sleep(live, n);
        return misses(row);
    }

    static int misses(List<Integer> sets) {
        return sets.stream().mapToInt(Integer::bitCount).sum();
    }

    /** The plan for n rounds in which the most miss, the least of them; plans once made are kept. */
    List<Integer> sleep(Now s, int n) {
        String key = n + " " + s.who;
        if (n == 0 || plans.containsKey(key)) {
            return n == 0 ? List.of() : plans.get(key);
        }
        List<Integer> best = null;
        for (int b = 0; areAll(b); b++) {
            if (broken(s, list(b)) == 0) {
                Now t = s.twin();
                ringOn(t, list(b));
                List<Integer> plan = new ArrayList<>(List.of(b));
                plan.addAll(sleep(t, n - 1));
                if (best == null || misses(plan) > misses(best)) {
                    best = plan;
                }
            }
        }
        plans.put(key, best);
        return best;
    }

    /** A round of which only order and law count. */
    void ringOn(Now s, List<Integer> those) {
        s.places = new ArrayList<>();
        for (int i : those) {
            s.places.add(s.order.indexOf(i));
            s.slept[i]++;
        }
        s.who = those;
        turn(s);
    }

    int naps(int s, int n) {
        if (s < 1 || s > 2 || n < 1 || n > 12 || bells() == 0) {
            return -1;
        }
        if (bells() > 5) {
            return -3;
        }
        for (int m = 1; m <= n; m++) {
            Now t = live.twin();
            Arrays.fill(t.slept, 0);
            List<Integer> sets = new ArrayList<>();
            plans.clear();
            if (nap(t, s, m, sets)) {
                row = sets;
                return m;
            }
        }
        return -2;
    }

    boolean nap(Now now, int s, int m, List<Integer> sets) {
        int missing = 0;
        String key = m + " " + now.who;
        for (int slept : now.slept) {
            missing += Math.max(0, s - slept);
            key += " " + Math.min(s, slept);
        }
        if (m == 0 || missing > m * most) {
            return missing == 0;
        }
        if (plans.put(key, List.of()) != null) {
            return false;
        }
        for (int b = 0; areAll(b); b++) {
            if (broken(now, list(b)) == 0) {
                Now t = now.twin();
                ringOn(t, list(b));
                sets.add(b);
                if (nap(t, s, m - 1, sets)) {
                    return true;
                }
                sets.remove(sets.size() - 1);
            }
        }
        return false;
    }

    int bound(int s) {
        if (s < 1 || s > 99) {
            return -1;
        }
        tell(bells() == 0 ? 0 : 2 * s - 1);
        int n = 0;
        while (n * most < bells() * s) {
            n++;
        }
        return n;
    }

    // ---- what was heard

    int missed(int k) {
        return k < 1 ? -1 : k > 20 || k > live.heard.size() ? -2 : live.heard.get(k - 1);
    }

    int heard(int place, int n) {
        if (!is(place) || n < 0 || n > 60) {
            return -1;
        }
        List<List<Integer>> all = orders(n + 9);
        int who = 0;
        for (int k = n; k < n + 10; k++) {
            who |= 1 << all.get(k).get(place);
        }
        tell(who);
        return all.get(n).get(place);
    }

    int reads() {
        String t = take();
        if (bells() == 0) {
            return -100;
        }
        int p = wrongAt(t, Pattern.compile("[-1-" + bells() + "]{1,14}"), s -> true);
        if (p >= 0) {
            return -1 - p;
        }
        Now s = live.twin();
        int good = 0;
        boolean all = true;
        row = new ArrayList<>();
        for (char c : t.toCharArray()) {
            int who = c == '-' ? -1 : s.order.get(c - '1');
            row.add(who);
            all &= ring(s, who < 0 ? List.of() : List.of(who)) == 0;
            good += all ? 1 : 0;
        }
        return good;
    }

    int said(int k) {
        if (k < 1 || k > 9 || bells() == 0) {
            return -1;
        }
        if (live.heard.size() < k) {
            return -2;
        }
        StringBuilder digits = new StringBuilder();
        int some = 0;
        for (int i = 1; i <= k; i++) {
            List<Integer> who = list(live.heard.get(i - 1));
            digits.insert(0, who.isEmpty() ? 0 : who.get(0) + 1);
            some += who.isEmpty() ? 0 : 1;
        }
        tell(some);
        return Integer.parseInt(digits.toString(), bells() + 1);
    }

    int says(int v, int k) {
        if (k < 1 || k > 9 || v < 0 || bells() == 0) {
            return -1;
        }
        String digits = Integer.toString(v, bells() + 1);
        if (digits.length() > k) {
            return -2;
        }
        digits = "0".repeat(k - digits.length()) + digits;
        List<Integer> sets = new ArrayList<>();
        Now s = live.twin();
        for (char c : digits.toCharArray()) {
            int those = c == '0' ? 0 : 1 << (c - '1');
            sets.add(those);
            if (ring(s, list(those)) != 0) {
                return 0;
            }
        }
        row = sets;
        return 1;
    }

    // ---- tired arms

    int fails() {
        Now s = live.twin();
        for (int n = 1; n <= 200 && bells() > 0; n++) {
            ring(s, List.of());
            if (!s.drifted.isEmpty()) {
                tell(bits(s.drifted));
                return n;
            }
        }
        return -2;
    }

    int lasts() {
        Now s = live.twin();
        for (int n = 1; n <= 200 && bells() > 0; n++) {
            List<Integer> best = List.of();
            for (int i = bells() - 1; i >= 0; i--) {
                if (broken(s, List.of(i)) == 0 && (best.isEmpty() || s.tired[i] >= s.tired[best.get(0)])) {
                    best = List.of(i);
                }
            }
            ring(s, best);
            if (!s.drifted.isEmpty()) {
                tell(bits(s.drifted));
                return n;
            }
        }
        return -2;
    }

    int stout(int n) {
        if (n < 1 || n > 60 || bells() == 0) {
            return -1;
        }
        List<Integer> beers = new ArrayList<>();
        for (int i = 0; i < bells(); i++) {
            int least = 0;
            while (least <= 10 && driftsWith(i, least, n)) {
                least++;
            }
            if (least > 10) {
                return -2;
            }
            beers.add(least);
        }
        row = beers;
        return beers.stream().mapToInt(b -> b).sum();
    }

    boolean driftsWith(int ringer, int beers, int n) {
        Now s = live.twin();
        s.tired[ringer] = Math.max(0, s.tired[ringer] - 10 * beers);
        for (int k = 0; k < n; k++) {
            ring(s, List.of());
        }
        return s.drifts[ringer] > live.drifts[ringer];
    }

    int weariest(int n) {
        if (n < 0 || n > 60 || bells() == 0) {
            return -1;
        }
        Now s = behind(n);
        int best = 0;
        int most = -1;
        for (int i = 0; i < bells(); i++) {
            int weary = s.tired[i] + 100 * (s.drifts[i] - live.drifts[i]);
            if (weary > most) {
                most = weary;
                best = i;
            }
        }
        tell(s.tired[best], s.drifts[best] - live.drifts[best]);
        return best;
    }

    // ---- nights, kept

    int coughs(int seed, int n, int k) {
        if (n < 1 || n > 60 || k < 1 || k > 9 || bells() == 0) {
            return -1;
        }
        Now s = live.twin();
        long r = seed;
        for (int i = 0; i < n; i++) {
            r = r * 1103515245L + 12345L & 0xFFFFFFFFL;
            int drawn = (int) (r / 65536 % (bells() + k));
            ring(s, drawn < bells() ? List.of(drawn) : List.of());
        }
        int best = -1;
        int often = 0;
        for (int i = 0; i < bells(); i++) {
            if (s.slept[i] - live.slept[i] > often) {
                best = i;
                often = s.slept[i] - live.slept[i];
            }
        }
        tell(sum(s.drifts) - sum(live.drifts), best, often);
        return s.deaths - live.deaths;
    }

    boolean keep(int i) {
        if (i != 0 && i != 1) {
            return false;
        }
        kept[i] = live.twin();
        return true;
    }

    boolean again(int i) {
        if (i != 0 && i != 1 || kept[i] == null) {
            return false;
        }
        live = kept[i].twin();
        undo.clear();
        return true;
    }

    int count(int what) {
        return switch (what) {
            case 0 -> bells();
            case 1 -> changes.length;
            case 2 -> live.now;
            case 3 -> live.deaths;
            case 4 -> sum(live.drifts);
            case 5 -> sum(live.slept);
            case 6 -> sum(live.tired);
            case 7 -> tenor();
            case 8 -> bits(live.places);
            case 9 -> most;
            case 10 -> rest;
            case 11 -> undo.size();
            case 12 -> row.size();
            case 13 -> text.length();
            default -> -100;
        };
    }

    int row(int i) {
        if (i < 0 || i >= row.size()) {
            throw new NoSuchElementException();
        }
        return row.get(i);
    }
}
