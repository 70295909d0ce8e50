import java.util.ArrayList;
import java.util.List;
import java.util.Random;

/** Random runs of calls on the class and on the model: each answer, each row and all that shows must agree. */
public final class RandomRuns {
    private static final int CALLS = 120;

    private final Random random;
    private final EachMayMissOne x = new EachMayMissOne();
    private final Model m = new Model();
    private final List<String> calls = new ArrayList<>();

    private RandomRuns(int seed) {
        random = new Random(seed);
    }

    public static void main(String[] args) {
        int runs = args.length > 0 ? Integer.parseInt(args[0]) : 1500;
        int from = args.length > 1 ? Integer.parseInt(args[1]) : 1;
        for (int seed = from; seed < from + runs && Due.failed == 0; seed++) {
            new RandomRuns(seed).run(seed);
        }
        Due.close("RandomRuns");
    }

    private void run(int seed) {
        for (int i = 0; i < CALLS && Due.failed == 0; i++) {
            if (i == 3 && random.nextInt(20) > 0) {
                text(weights(), "");
                compare("tower()", x.tower(), m.tower());
            } else {
                call();
            }
            compareState();
        }
        if (Due.failed > 0) {
            System.out.println("run " + seed + ": " + calls);
        }
    }

    private void compare(String call, int got, int want) {
        calls.add(call + "=" + got);
        Due.is(call, got, want);
    }

    private void compareState() {
        String last = "behind " + calls.get(calls.size() - 1) + ": ";
        for (int i = -1; i < 15; i++) {
            Due.is(last + "count " + i, x.count(i), m.count(i));
        }
        for (int i = -1; i <= m.row.size(); i++) {
            int k = i;
            Due.is(last + "row " + i, Due.answer(() -> x.row(k)), Due.answer(() -> m.row(k)));
        }
        for (int i = -1; i <= m.bells(); i++) {
            int k = i;
            Due.is(last + "bell " + i, Due.answer(() -> x.bell(k)), Due.answer(() -> m.bell(k)));
            for (int j = -1; j < 8; j++) {
                int what = j;
                Due.is(last + "ringer " + i + " " + j, Due.answer(() -> x.ringer(k, what)), Due.answer(() -> m.ringer(k, what)));
            }
        }
    }

    // ---- arguments: mostly such as are taken

    private int number(int from, int to) {
        switch (random.nextInt(24)) {
            case 0:
                return from - 1;
            case 1:
                return to + 1;
            case 2:
                return random.nextInt();
            case 3:
                return random.nextBoolean() ? from : to;
            default:
                return from + random.nextInt(to - from + 1);
        }
    }

    private int ringer() {
        return m.bells() == 0 ? random.nextInt(3) - 1 : number(0, m.bells() - 1);
    }

    private int those() {
        int all = 1 << m.bells();
        if (random.nextInt(3) > 0) {
            for (int i = 0; i < 5; i++) {
                int those = random.nextInt(all);
                if (m.bells() > 0 && m.may(those) == 0) {
                    return those;
                }
            }
        }
        return number(0, all - 1);
    }

    private String weights() {
        StringBuilder s = new StringBuilder();
        int n = 3 + random.nextInt(5);
        for (int i = 0; i < n; i++) {
            s.append((char) ('1' + random.nextInt(9)));
        }
        return s.toString();
    }

    private String changes() {
        StringBuilder s = new StringBuilder();
        int n = random.nextInt(15) == 0 ? 15 + random.nextInt(8) : 1 + random.nextInt(5);
        for (int k = 0; k < n; k++) {
            StringBuilder one = new StringBuilder();
            for (int i = 1; i <= m.bells(); i++) {
                one.append(random.nextInt(3) == 0 ? "" + i : "");
            }
            s.append(k == 0 ? "" : ".").append(one.length() == 0 || random.nextInt(3) == 0 ? "x" : one);
        }
        return s.toString();
    }

    private String expression(int depth) {
        String e = sum(depth);
        return random.nextInt(4) == 0 ? e + pick("<>=") + sum(depth) : e;
    }

    private String sum(int depth) {
        StringBuilder s = new StringBuilder(thing(depth));
        while (random.nextInt(5) < 2) {
            s.append(pick("+-*/")).append(thing(depth));
        }
        return s.toString();
    }

    private String thing(int depth) {
        int kind = random.nextInt(8);
        if (kind == 0) {
            return "-" + thing(depth);
        }
        if (kind == 1 && depth < 5) {
            return "(" + expression(depth + 1) + ")";
        }
        return kind < 5 ? pick("wtprism") : "" + random.nextInt(random.nextInt(6) == 0 ? 1000 : 12);
    }

    private String pick(String of) {
        return "" + of.charAt(random.nextInt(of.length()));
    }

    private String acts() {
        StringBuilder s = new StringBuilder();
        int n = random.nextInt(random.nextInt(4) == 0 ? 36 : 7);
        for (int i = 0; i < n; i++) {
            s.append(i == 0 ? "" : ";");
            switch (random.nextInt(4)) {
                case 0:
                    s.append('-');
                    break;
                case 1:
                    s.append('r').append(random.nextInt(random.nextInt(4) == 0 ? 100 : 12));
                    break;
                case 2:
                    s.append('!').append(letter());
                    break;
                default:
                    s.append(letter()).append(random.nextInt(3) == 0 ? "" + letter() : "");
            }
        }
        return s.toString();
    }

    private char letter() {
        int bells = Math.max(1, m.bells());
        return (char) ('a' + random.nextInt(random.nextInt(12) == 0 ? 8 : bells));
    }

    private String anOrder() {
        List<Integer> order = new ArrayList<>(m.live.order);
        if (random.nextBoolean()) {
            order = m.orders(40).get(random.nextInt(40));
        } else {
            java.util.Collections.shuffle(order, random);
        }
        StringBuilder s = new StringBuilder();
        for (int bell : order) {
            s.append((char) ('a' + bell));
        }
        return s.toString();
    }

    private String gaps() {
        StringBuilder s = new StringBuilder();
        int n = 1 + random.nextInt(random.nextInt(8) == 0 ? 16 : 6);
        for (int i = 0; i < n; i++) {
            s.append(random.nextInt(3) == 0 ? "-" : "" + (1 + random.nextInt(Math.max(1, m.bells()))));
        }
        return s.toString();
    }

    /** Puts a text into both, now and then with a wrong sign, a sign less or a sign more. */
    private void text(String text, String wrongSigns) {
        String t = text;
        int p = random.nextInt(t.length() + 1);
        if (!wrongSigns.isEmpty() && random.nextInt(4) == 0) {
            String sign = random.nextInt(5) == 0 ? "" + (char) random.nextInt(256) : pick(wrongSigns);
            int kind = random.nextInt(3);
            if (kind == 0) {
                t = t.substring(0, p) + sign + t.substring(p);
            } else if (kind == 1) {
                t = t.substring(0, p);
            } else if (p < t.length()) {
                t = t.substring(0, p) + sign + t.substring(p + 1);
            }
        }
        t = t.length() > 80 ? t.substring(0, 80) : t;
        if (random.nextInt(9) > 0) {
            compare("end(0)", x.end(0) ? 1 : 0, m.end(0) ? 1 : 0);
        }
        for (int i = 0; i < t.length(); i += 4) {
            int v = 0;
            for (int k = i; k < i + 4; k++) {
                v = v << 8 | (k < t.length() ? t.charAt(k) : 0);
            }
            compare("sign(" + v + ")", x.sign(v), m.sign(v));
        }
        int n = random.nextInt(40) == 0 ? number(0, 80) : m.text.length() - (4 - t.length() % 4) % 4;
        compare("end(" + n + ")", x.end(n) ? 1 : 0, m.end(n) ? 1 : 0);
    }

    // ---- calls

    private void call() {
        switch (random.nextInt(9)) {
            case 0:
                callText();
                break;
            case 1:
                callRounds();
                callRounds();
                break;
            case 2:
                callRounds();
                break;
            case 3:
                callOrders();
                break;
            case 4:
                callMay();
                break;
            case 5:
                callHeard();
                break;
            case 6:
                callTired();
                break;
            case 7:
                callKept();
                break;
            default:
                callNaps();
        }
    }

    private void callText() {
        switch (random.nextInt(20)) {
            case 0:
                text(weights(), "0:1234.x ");
                compare("tower()", x.tower(), m.tower());
                break;
            case 1:
            case 2:
            case 3:
            case 4:
                text(changes(), "0123456789.xX");
                compare("method()", x.method(), m.method());
                break;
            case 5:
            case 6:
            case 7:
            case 8:
            case 9:
                text(expression(0), "0123456789+-*/<>=()wtprismx");
                compare("rule()", x.rule(), m.rule());
                break;
            case 10:
                compare("rule()", x.rule(), m.rule());
                break;
            case 11:
                compare("comes()", x.comes(), m.comes());
                break;
            case 12:
                int v = random.nextInt();
                compare("sign(" + v + ")", x.sign(v), m.sign(v));
                break;
            case 13:
                compare("night()", x.night(), m.night());
                break;
            case 14:
                compare("reads()", x.reads(), m.reads());
                break;
            default:
                text(anOrder(), "abcdefgh");
                compare("comes()", x.comes(), m.comes());
        }
    }

    private void callRounds() {
        int those = those();
        int n = number(0, random.nextInt(4) == 0 ? 60 : 9);
        int ringer = ringer();
        switch (random.nextInt(12)) {
            case 0:
                compare("rounds(" + n + ")", x.rounds(n), m.rounds(n));
                break;
            case 1:
                compare("beer(" + ringer + ")", x.beer(ringer), m.beer(ringer));
                break;
            case 2:
                text(acts(), ";-r!abcdefgh0123456789");
                compare("night()", x.night(), m.night());
                break;
            case 3:
                compare("undo()", x.undo(), m.undo());
                break;
            case 4:
                int kind = number(0, 2);
                int many = number(0, 7);
                int f = random.nextInt(4) == 0 ? random.nextInt() : number(0, 99);
                int step = random.nextInt(4) == 0 ? random.nextInt() : number(-20, 20);
                compare("sheet(" + kind + "," + many + "," + f + "," + step + ")", x.sheet(kind, many, f, step), m.sheet(kind, many, f, step));
                break;
            case 5:
                int what = number(0, 1);
                int v = what == 0 ? number(1, 3) : number(1, 99);
                compare("set(" + what + "," + v + ")", x.set(what, v), m.set(what, v));
                break;
            default:
                compare("round(" + those + ")", x.round(those), m.round(those));
        }
    }

    private void callOrders() {
        int one = ringer();
        int other = ringer();
        int n = number(0, 200);
        switch (random.nextInt(5)) {
            case 0:
                compare("order(" + n + ")", x.order(n), m.order(n));
                break;
            case 1:
                compare("truth()", x.truth(), m.truth());
                break;
            case 2:
                compare("lead()", x.lead(), m.lead());
                break;
            case 3:
                compare("leads(" + one + "," + other + ")", x.leads(one, other), m.leads(one, other));
                break;
            default:
                compare("course(" + one + "," + other + "," + n + ")", x.course(one, other, n), m.course(one, other, n));
        }
    }

    private void callMay() {
        int those = number(0, (1 << m.bells()) - 1);
        int one = ringer();
        int other = ringer();
        int n = number(1, 60);
        switch (random.nextInt(5)) {
            case 0:
                compare("may(" + those + ")", x.may(those), m.may(those));
                break;
            case 1:
                compare("lawful()", x.lawful(), m.lawful());
                break;
            case 2:
                compare("covers(" + one + ")", x.covers(one), m.covers(one));
                break;
            case 3:
                compare("rivals(" + one + "," + other + "," + n + ")", x.rivals(one, other, n), m.rivals(one, other, n));
                break;
            default:
                compare("matches(" + those + "," + n + ")", x.matches(those, n), m.matches(those, n));
        }
    }

    private void callHeard() {
        int k = number(1, 9);
        int place = ringer();
        int n = number(0, 60);
        int v = random.nextInt(8) == 0 ? random.nextInt() : random.nextInt((int) Math.pow(m.bells() + 2, Math.max(0, Math.min(8, k))));
        switch (random.nextInt(5)) {
            case 0:
                int back = number(1, 20);
                compare("missed(" + back + ")", x.missed(back), m.missed(back));
                break;
            case 1:
                compare("heard(" + place + "," + n + ")", x.heard(place, n), m.heard(place, n));
                break;
            case 2:
                text(gaps(), "-0123456789");
                compare("reads()", x.reads(), m.reads());
                break;
            case 3:
                compare("said(" + k + ")", x.said(k), m.said(k));
                break;
            default:
                compare("says(" + v + "," + k + ")", x.says(v, k), m.says(v, k));
        }
    }

    private void callTired() {
        int n = number(0, 60);
        switch (random.nextInt(5)) {
            case 0:
                compare("fails()", x.fails(), m.fails());
                break;
            case 1:
                compare("lasts()", x.lasts(), m.lasts());
                break;
            case 2:
                compare("stout(" + n + ")", x.stout(n), m.stout(n));
                break;
            case 3:
                compare("weariest(" + n + ")", x.weariest(n), m.weariest(n));
                break;
            default:
                int seed = random.nextInt();
                int k = number(1, 9);
                compare("coughs(" + seed + "," + n + "," + k + ")", x.coughs(seed, n, k), m.coughs(seed, n, k));
        }
    }

    private void callKept() {
        int i = number(0, 1);
        switch (random.nextInt(4)) {
            case 0:
                compare("keep(" + i + ")", x.keep(i) ? 1 : 0, m.keep(i) ? 1 : 0);
                break;
            case 1:
                compare("again(" + i + ")", x.again(i) ? 1 : 0, m.again(i) ? 1 : 0);
                break;
            default:
                compare("undo()", x.undo(), m.undo());
        }
    }

    private void callNaps() {
        int n = number(1, random.nextInt(4) == 0 ? 12 : 6);
        int s = number(1, 2);
        switch (random.nextInt(6)) {
            case 0:
                compare("sleeps(" + n + ")", x.sleeps(n), m.sleeps(n));
                break;
            case 1:
                int most = number(1, 99);
                compare("bound(" + most + ")", x.bound(most), m.bound(most));
                break;
            default:
                compare("naps(" + s + "," + n + ")", x.naps(s, n), m.naps(s, n));
        }
    }
}
