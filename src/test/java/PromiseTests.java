/** For each promise of the document: ordinary inputs, the edges that it names, and wrong inputs. */
public final class PromiseTests {
    /** A method of which no order comes again in 200 rounds. */
    private static final String LONGER = "3.1.3.7.3.x.1.x.1.7.3.1.x.3.x.1.x";

    private static EachMayMissOne x = new EachMayMissOne();

    public static void main(String[] args) {
        aNewObject();
        sign();
        end();
        tower();
        method();
        rule();
        ruleWorth();
        ringer();
        bell();
        set();
        sheet();
        round();
        law();
        rounds();
        beer();
        night();
        nightSigns();
        nightLength();
        undo();
        order();
        truthAndLead();
        leads();
        comes();
        course();
        may();
        lawful();
        covers();
        rivals();
        matches();
        sleeps();
        naps();
        bound();
        missed();
        heard();
        reads();
        said();
        says();
        fails();
        lasts();
        stout();
        weariest();
        coughs();
        keepAndAgain();
        count();
        row();
        noBells();
        Due.close("PromiseTests");
    }

    // ---- words of these tests

    private static void tellTower(String text) {
        x.end(0);
        Due.put(x, text);
        Due.is("tower " + text, x.tower(), text.length());
    }

    private static int method(String text) {
        x.end(0);
        Due.put(x, text);
        return x.method();
    }

    private static int rule(String text) {
        x.end(0);
        Due.put(x, text);
        return x.rule();
    }

    private static int night(String text) {
        x.end(0);
        Due.put(x, text);
        return x.night();
    }

    private static int comes(String text) {
        x.end(0);
        Due.put(x, text);
        return x.comes();
    }

    private static int reads(String text) {
        x.end(0);
        Due.put(x, text);
        return x.reads();
    }

    private static void begin(String tower, String method) {
        x = new EachMayMissOne();
        tellTower(tower);
        Due.is("method " + method, method(method), method.split("\\.").length);
    }

    private static void at(String what, int got, int p) {
        Due.is(what, got, -1 - p);
        Due.is(what + " empties the text", x.count(13), 0);
    }

    private static void tellKnownRow() {
        x.bound(99);
        Due.row("a known row", x, 197);
    }

    private static void known(String what, int got, int want) {
        Due.is(what, got, want);
        Due.row(what + " leaves the row", x, 197);
    }

    // ---- promises 1 to 10

    private static void aNewObject() {
        x = new EachMayMissOne();
        int[] due = {0, 1, 0, 0, 0, 0, 0, -1, 0, 1, 9, 0, 0, 0, -100};
        for (int i = 0; i < due.length; i++) {
            Due.is("a new object: count " + i, x.count(i), due[i]);
        }
        Due.is("NONE", EachMayMissOne.NONE, -1);
    }

    private static void sign() {
        x = new EachMayMissOne();
        for (int i = 1; i <= 20; i++) {
            Due.is("sign " + i, x.sign(0x31323334), 4 * i);
        }
        Due.is("an 81st sign", x.sign(0x31323334), -1);
        Due.is("signs then", x.count(13), 80);
        x.end(77);
        Due.is("77 and 4 are too many", x.sign(0), -1);
        x.end(76);
        Due.is("76 and 4 are not", x.sign(0), 80);
        x.end(0);
        Due.is("highest byte first", x.sign(0x39383700), 4);
        x.end(3);
        Due.is("three weights", x.tower(), 3);
        Due.is("the first", x.ringer(0, 0), 9);
        Due.is("the last", x.ringer(2, 0), 7);
        x.sign(0xFF313131);
        at("a sign of 255", x.tower(), 0);
    }

    private static void end() {
        x = new EachMayMissOne();
        Due.is("end 0 of none", x.end(0), true);
        Due.is("end 1 of none", x.end(1), false);
        x.sign(0x31323334);
        Due.is("end 5 of four", x.end(5), false);
        Due.is("end -1", x.end(-1), false);
        Due.is("signs stay", x.count(13), 4);
        Due.is("end 4 of four", x.end(4), true);
        Due.is("end 3 of four", x.end(3), true);
        Due.is("signs then", x.count(13), 3);
        Due.is("end 4 of three", x.end(4), false);
    }

    private static void tower() {
        x = new EachMayMissOne();
        at("no sign", x.tower(), 0);
        String[] wrong = {"1", "12", "0", "10", "120", "12a", "1234567a", "12345678", "123456789", "123456:", "123 "};
        int[] p = {1, 2, 0, 1, 2, 2, 7, 7, 7, 6, 3};
        tellTower("555");
        for (int i = 0; i < wrong.length; i++) {
            Due.put(x, wrong[i]);
            at("tower " + wrong[i], x.tower(), p[i]);
            Due.is("bells stay", x.count(0), 3);
        }
        tellTower("1234567");
        Due.is("seven bells", x.count(0), 7);
        x.sheet(2, 7, 99, 0);
        x.round(3);
        method("1.2");
        rule("3");
        x.set(0, 2);
        x.set(1, 20);
        x.round(1);
        x.keep(0);
        x.keep(1);
        x.order(3);
        tellTower("3993");
        int[] due = {4, 1, 0, 0, 0, 0, 0, 2, 0, 2, 20, 0, 7, 0};
        for (int i = 0; i < due.length; i++) {
            Due.is("a tower anew: count " + i, x.count(i), due[i]);
        }
        Due.is("nothing is kept 0", x.again(0), false);
        Due.is("nothing is kept 1", x.again(1), false);
        Due.is("nothing was heard", x.missed(1), -2);
        Due.is("the rule stays", x.ringer(0, 6), 3);
        Due.is("the order is anew", x.bell(3), 3);
        Due.is("the method is x", x.order(1), 1);
        Due.row("the method is x", x, 1, 0, 3, 2);
    }

    private static void method() {
        begin("12345", "x.1");
        String[] wrong = {".", "x.", "x..x", "xx", "1x", "x1", "0", "6", "12346", "21", "11", "1.21", "X", " x", "x.x.y", "5.4.6", "12345.", "123451"};
        int[] p = {0, 2, 2, 1, 1, 1, 0, 0, 4, 1, 1, 3, 0, 0, 4, 4, 6, 5};
        for (int i = 0; i < wrong.length; i++) {
            at("method " + wrong[i], method(wrong[i]), p[i]);
            Due.is("changes stay", x.count(1), 2);
        }
        String twenty = "x.".repeat(19) + "x";
        Due.is("20 changes", method(twenty), 20);
        at("20 changes and a dot", method(twenty + "."), 40);
        at("a 21st change", method(twenty + ".x"), 40);
        at("a 21st change that is none", method(twenty + ".y"), 40);
        at("a 21st sign that is no dot", method(twenty + "x"), 39);
        String sixty = "1234.".repeat(11) + "12345";
        Due.is("60 signs", method(sixty), 12);
        at("61 signs", method(sixty + "."), 60);
        at("61 signs, the last one wrong", method(sixty + "z"), 60);
        at("80 signs, an early one wrong", method("y" + sixty + "x.x.x.x.x.x.x.x.x.x"), 0);
        at("60 signs, the last a dot", method("123.".repeat(15)), 60);
        at("60 signs with a dot, and more", method("123.".repeat(15) + "1"), 60);
        Due.is("none of these was told", x.count(1), 12);
        Due.is("an empty one", method(""), 1);
        Due.is("x then", x.order(1), 1);
        tellTower("1234567");
        Due.is("seven places", method("1234567.7"), 2);
        x.order(1);
        Due.row("all stay", x, 0, 1, 2, 3, 4, 5, 6);
        x.order(2);
        Due.row("7 stays", x, 1, 0, 3, 2, 5, 4, 6);
        method("4");
        x.order(1);
        Due.row("4 stays", x, 1, 0, 2, 3, 5, 4, 6);
        method("2.57");
        x.order(1);
        Due.row("2 stays", x, 0, 1, 3, 2, 5, 4, 6);
        x.order(2);
        Due.row("then 5 and 7", x, 1, 0, 2, 3, 5, 4, 6);
        x.rounds(3);
        method("1.x.x");
        Due.is("the change goes by now: 3 of 3 is the first", x.order(1), x.bell(0));
        x = new EachMayMissOne();
        Due.is("x without bells", method("x.x"), 2);
        at("a place without bells", method("x.1"), 2);
    }

    private static void rule() {
        begin("123", "x");
        String[] wrong = {"+", "w+", "w*", "wt", "w(", "(", "()", "(w", "(w))", ")", "w)", "1234", "w<t<p", "w=t>p", "(w<t<p)", "w<", "a",
            "-", "--", "w-", "w+*t", "((((w)))", "(((((w)))))", "w<(t<p)<1", "10 ", "12w", "W"};
        int[] p = {0, 2, 2, 1, 1, 1, 1, 2, 3, 0, 1, 3, 3, 3, 4, 2, 0, 1, 2, 2, 2, 8, 4, 7, 2, 2, 0};
        Due.is("a rule", rule("7"), 0);
        for (int i = 0; i < wrong.length; i++) {
            at("rule " + wrong[i], rule(wrong[i]), p[i]);
            Due.is("the rule stays", x.ringer(0, 6), 7);
        }
        String forty = "w+".repeat(19) + "12";
        Due.is("40 signs", rule(forty), 0);
        at("41 signs", rule(forty + "3"), 40);
        at("41 signs, the last one wrong", rule(forty + "z"), 40);
        at("40 signs, ended too early", rule("w+".repeat(20)), 40);
        at("60 signs, one in the first 40 wrong", rule("w+".repeat(19) + "w)" + forty), 39);
        Due.is("40 minuses but one", rule("-".repeat(39) + "3"), 0);
        Due.is("it is -3, put to 0", x.ringer(0, 6), 0);
        Due.is("38 minuses", rule("-".repeat(38) + "3"), 0);
        Due.is("it is 3", x.ringer(0, 6), 3);
        Due.is("none", rule(""), 0);
        Due.is("none: w/2+1", x.ringer(2, 6), 2);
    }

    private static void worth(String text, int want) {
        Due.is("rule " + text, rule(text), 0);
        Due.is("worth of " + text, x.ringer(2, 6), want);
    }

    private static void ruleWorth() {
        begin("359", "x");
        x.sheet(2, 3, 10, 20);
        worth("w", 9);
        worth("t", 50);
        worth("p", 2);
        worth("r", 0);
        worth("i", 2);
        worth("s", 0);
        worth("m", 0);
        worth("007", 7);
        worth("999", 99);
        worth("0-999", 0);
        worth("20-5-3", 12);
        worth("20-(5-3)", 18);
        worth("2+3*4", 14);
        worth("(2+3)*4", 20);
        worth("40/6/2", 3);
        worth("40/(6/2)", 13);
        worth("7/2*2", 6);
        worth("9/0+4", 4);
        worth("9/(w-9)", 0);
        worth("10+-7/2", 7);
        worth("10-7/-2", 13);
        worth("10--3", 13);
        worth("2*-3+9", 3);
        worth("3<4", 1);
        worth("4<4", 0);
        worth("5>4", 1);
        worth("4>4", 0);
        worth("4=4", 1);
        worth("4=5", 0);
        worth("1+2=3", 1);
        worth("5-(1<2)", 4);
        worth("(1<2)+(2<1)+(3=3)", 2);
        worth("3=(1<2)+2", 1);
        worth("((((w))))", 9);
        worth("-(3-8)", 5);
        worth("999*999*999*2", 99);
        worth("999*999*999*999*999>0", 0);
        worth("999*999*999*5>0", 1);
        worth("999*999*999*3>0", 0);
        x.round(1);
        worth("r", 1);
        worth("p", 2);
        Due.is("rule m", rule("m*10+1"), 0);
        Due.is("nobody misses in what is asked", x.ringer(0, 6), 1);
        x.sheet(3, 0, 0, 0);
        x.round(3);
        Due.is("two of three missed", x.ringer(2, 1), 21);
        rule("s*9");
        Due.is("it slept twice", x.ringer(0, 6), 18);
        Due.is("it slept once", x.ringer(1, 6), 9);
    }

    private static void ringer() {
        begin("246", "x");
        x.set(0, 3);
        x.sheet(2, 3, 99, 0);
        x.round(5);
        int[][] due = {{2, 90, 1, 0, 1, 1, 2}, {4, 99, 0, 1, 0, 0, 3}, {6, 90, 1, 0, 2, 1, 4}};
        for (int i = 0; i < 3; i++) {
            for (int what = 0; what < 7; what++) {
                Due.is("ringer " + i + " " + what, x.ringer(i, what), due[i][what]);
            }
        }
        int[][] wrong = {{3, 0}, {-1, 0}, {0, 7}, {0, -1}, {Integer.MIN_VALUE, 0}, {0, Integer.MAX_VALUE}, {7, 6}};
        for (int[] w : wrong) {
            Due.isThrown("ringer " + w[0] + " " + w[1], () -> x.ringer(w[0], w[1]));
        }
    }

    private static void bell() {
        begin("2468", "x.14");
        int[][] due = {{0, 1, 2, 3}, {1, 0, 3, 2}, {1, 3, 0, 2}, {3, 1, 2, 0}};
        for (int[] order : due) {
            for (int p = 0; p < 4; p++) {
                Due.is("bell in " + p, x.bell(p), order[p]);
            }
            x.round(0);
        }
        Due.isThrown("bell 4", () -> x.bell(4));
        Due.isThrown("bell -1", () -> x.bell(-1));
        x = new EachMayMissOne();
        Due.isThrown("bell 0 of none", () -> x.bell(0));
    }

    private static void set() {
        begin("2468", "x");
        tellKnownRow();
        known("set most", x.set(0, 3), 1);
        known("set most again", x.set(0, 1), 3);
        known("set rest", x.set(1, 99), 9);
        known("set rest again", x.set(1, 1), 99);
        int[][] wrong = {{0, 0}, {0, 4}, {0, -1}, {1, 0}, {1, 100}, {2, 1}, {-1, 1}};
        for (int[] w : wrong) {
            known("set " + w[0] + " " + w[1], x.set(w[0], w[1]), -1);
        }
        Due.is("most", x.count(9), 1);
        Due.is("rest", x.count(10), 1);
        x.sheet(2, 1, 5, 0);
        x.round(1);
        Due.is("a rest of 1", x.ringer(0, 1), 4);
        x.undo();
        x.set(1, 99);
        x.round(1);
        Due.is("a rest of 99", x.ringer(0, 1), 0);
        x.undo();
        Due.is("undo leaves rest", x.count(10), 99);
    }

    private static void sheetIs(int kind, int n, int f, int step, int answer, int... tired) {
        x.sheet(2, 7, 7, 0);
        Due.is("sheet", x.sheet(kind, n, f, step), answer);
        for (int i = 0; i < tired.length; i++) {
            Due.is("sheet: tired " + i, x.ringer(i, 1), tired[i]);
        }
    }

    private static void sheet() {
        begin("2468", "x");
        sheetIs(0, 4, 125, 1, 297, 99, 99, 99, 0);
        sheetIs(0, 4, 256, 257, 6, 0, 1, 2, 3);
        sheetIs(1, 4, 32766, 1, 198, 99, 99, 0, 0);
        sheetIs(1, 3, 65537, 65536, 3, 1, 1, 1, 0);
        sheetIs(2, 4, Integer.MAX_VALUE, 1, 99, 99, 0, 0, 0);
        sheetIs(2, 3, 50, -30, 70, 50, 20, 0, 0);
        sheetIs(2, 7, 1, 1, 10, 1, 2, 3, 4);
        sheetIs(2, 0, 1, 1, 0, 0, 0, 0, 0);
        sheetIs(2, -1, 1, 1, -2, 7, 7, 7, 7);
        sheetIs(0, Integer.MIN_VALUE, 1, 1, -2, 7, 7, 7, 7);
        sheetIs(3, 4, 1, 1, -3, 0, 0, 0, 0);
        sheetIs(3, -1, 1, 1, -3, 0, 0, 0, 0);
        sheetIs(3, 8, 1, 1, -1, 7, 7, 7, 7);
        sheetIs(2, 8, 1, 1, -1, 7, 7, 7, 7);
        sheetIs(4, 4, 1, 1, -1, 7, 7, 7, 7);
        sheetIs(-1, 4, 1, 1, -1, 7, 7, 7, 7);
        sheetIs(4, -1, 1, 1, -1, 7, 7, 7, 7);
        Due.is("a sheet can't be undone", x.undo(), -1);
    }

    // ---- promises 11 to 15

    private static void round() {
        begin("246", "x.1");
        x.sheet(2, 3, 96, 0);
        Due.is("a lawful round", x.round(1), 0);
        Due.row("a lawful round", x, 1, 4);
        Due.is("96 and 4 drifts", x.ringer(2, 3), 1);
        Due.is("at 99", x.ringer(2, 1), 99);
        Due.is("96 and 3 drifts not", x.ringer(1, 3), 0);
        Due.is("at 99, too", x.ringer(1, 1), 99);
        begin("246", "x.1");
        x.sheet(2, 3, 96, 0);
        Due.is("all are wrong", x.round(7), 1);
        Due.row("all are wrong", x, 7, 0);
        Due.is("deaths", x.count(3), 1);
        Due.is("now", x.count(2), 1);
        Due.is("all slept", x.count(5), 3);
        Due.is("all rested", x.count(6), 3 * 87);
        Due.is("nobody", x.round(0), 0);
        Due.is("bits of none such", x.round(8), -1);
        Due.is("below 0", x.round(-1), -1);
        Due.is("now stays", x.count(2), 2);
    }

    private static void law() {
        begin("11119", "x");
        for (int i = 0; i < 15; i++) {
            Due.is("tenor at " + i, x.may(16), i % 7 == 0 ? 5 : 0);
            x.round(0);
        }
        begin("11911", "12345");
        x.set(0, 2);
        Due.is("(1) goes first", x.may(7), 1);
        Due.is("a round", x.round(9), 0);
        Due.is("(2) goes first", x.may(24), 2);
        Due.is("(2)", x.may(1), 2);
        Due.is("(3)", x.may(6), 3);
        Due.is("not (4): nobody else is there", x.may(18), 0);
        method("x");
        Due.is("the order is as it was", x.may(4), 0);
        x.round(0);
        x.round(8);
        Due.is("0 1 2 3 4 is again", x.bell(3), 3);
        x.undo();
        Due.is("1 0 3 2 4 now", x.bell(0), 1);
        x.round(1);
        Due.is("(4): bell 1 is where 0 was", x.may(2), 4);
        Due.is("(3) ahead of (4)", x.may(6), 3);
        Due.is("(2) ahead of (3)", x.may(3), 2);
        tellTower("911");
        Due.is("ringer 0 may be the tenor", x.may(1), 5);
        tellTower("995");
        x.set(0, 3);
        Due.is("the last of equals is the tenor", x.count(7), 1);
        Due.is("not the first", x.may(1), 0);
        Due.is("(5)", x.may(2), 5);
        Due.is("(3) ahead of (5)", x.may(3), 3);
        Due.is("a broken round", x.round(2), 5);
        Due.is("it counts as missed", x.may(2), 2);
    }

    private static void rounds() {
        begin("246", "x.1");
        x.sheet(2, 3, 98, 0);
        Due.is("no rounds", x.rounds(0), 0);
        Due.row("no rounds", x, 0, 0);
        Due.is("no rounds can't be undone", x.count(11), 0);
        x.rounds(1);
        Due.is("one can", x.undo(), 0);
        Due.is("and is", x.count(2), 0);
        Due.is("three rounds", x.rounds(3), 9);
        Due.row("three rounds", x, 7, 3);
        Due.is("drifts", x.count(4), 9);
        x.sheet(2, 3, 39, 30);
        Due.is("one round", x.rounds(1), 1);
        Due.row("one drifts", x, 4, 4);
        // from 41 by 2, 72 by 3, 99: they drift from the 30th, the 10th, the first on
        Due.is("60 rounds", x.rounds(60), 31 + 51 + 60);
        Due.row("60 rounds", x, 7, 64);
        int left = x.count(11);
        Due.is("61 rounds", x.rounds(61), -1);
        Due.is("-1 rounds", x.rounds(-1), -1);
        Due.row("the row stays", x, 7, 64);
        Due.is("nothing more to undo", x.count(11), left);
    }

    private static void beer() {
        begin("246", "x");
        x.sheet(2, 3, 5, 5);
        tellKnownRow();
        known("beer for 5", x.beer(0), 0);
        known("beer for 10", x.beer(1), 0);
        known("beer for 15", x.beer(2), 5);
        known("beer for none such", x.beer(3), -1);
        known("beer for -1", x.beer(-1), -1);
        known("beer for 0", x.beer(0), 0);
        Due.is("each can be undone", x.count(11), 4);
        Due.is("no round went by", x.count(2), 0);
    }

    private static void night() {
        begin("246", "x.1");
        Due.is("no acts", night(""), 0);
        Due.row("no acts", x, 0, 0, 0);
        Due.is("nothing to undo", x.count(11), 0);
        x.sheet(2, 3, 90, 0);
        Due.is("six acts", night("a;ab;-;r07;!b;!b"), 6);
        // ab: two are more than one; the drifts: b 1 in 7 rounds from 84 (3 each), c from 90 (4 each)
        Due.is("rounds", x.count(2), 10);
        Due.row("six acts", x, 0, 1, x.count(4));
        Due.is("undone as one", x.undo(), 0);
        Due.is("now then", x.count(2), 0);
        Due.is("tired then", x.count(6), 270);
        Due.is("d is not there", night("-;a;d;-"), 2);
        Due.is("row", x.row(0), 1);
        Due.is("two rounds", x.count(2), 2);
        Due.is("ad is not done", night("ad"), 0);
        Due.is("no round", x.count(2), 2);
        Due.is("not to undo", x.count(11), 1);
        Due.is("61 can't be", night("r60;r61"), 1);
        Due.is("row", x.row(0), 1);
        Due.is("62", x.count(2), 62);
        Due.is("no rounds are an act", night("r0"), 1);
        Due.is("that counts", x.count(11), 3);
        Due.is("a beer", night("!a"), 1);
        Due.is("a beer to none", night("!d"), 0);
        Due.row("a beer to none", x, 1, 0, 0);
        Due.is("beer counts", x.count(11), 4);
        Due.is("thirty acts", night("-" + ";-".repeat(29)), 30);
        Due.row("thirty acts", x, 0, 0, x.row(2));
    }

    private static void nightSigns() {
        begin("2461234", "x");
        tellKnownRow();
        String[] wrong = {";", "-;", "--", "-a", "a-", "aa", "abca", "h", "abcdefgh", "abcdefga", "r", "rx", "r123", "r1a", "!", "!h", "!1",
            "!ab", "ra", "R1", "-;;-", "a;b;bb", "r;-", "- ", "r:", "r1:", "r/"};
        int[] p = {0, 2, 1, 1, 1, 1, 3, 0, 7, 7, 1, 1, 3, 2, 1, 1, 1, 2, 1, 0, 2, 5, 1, 1, 1, 2, 1};
        for (int i = 0; i < wrong.length; i++) {
            at("night " + wrong[i], night(wrong[i]), p[i]);
            known("nothing is done", x.count(2), 0);
        }
        Due.is("seven letters", night("gfedcba"), 1);
        Due.row("seven letters", x, 0, 1, 0);
        Due.is("all slept", x.count(5), 7);
        Due.is("all again, and nine more", night("abcdefg;r9;r09"), 3);
        Due.row("the death in this night alone", x, 0, 1, x.count(4));
        Due.is("rounds", x.count(2), 20);
        x.sheet(2, 7, 99, 0);
        int drifts = x.count(4);
        Due.is("one is less tired", night("!c;-"), 2);
        Due.row("one drifts not", x, 0, 0, 6);
        Due.is("drifts", x.count(4), drifts + 6);
        Due.is("tired", x.ringer(2, 1), 89 + 4);
    }

    private static void nightLength() {
        begin("246", "x");
        String sixty = "r1;".repeat(19) + "r01";
        String open = "a;".repeat(30);
        Due.is("60 signs", night(sixty), 20);
        Due.is("all rung", x.count(2), 20);
        tellKnownRow();
        int past = x.count(11);
        at("61 signs, the first 60 could end", night(sixty + ";"), 60);
        at("61 signs, the last one wrong", night(sixty + "z"), 60);
        at("61 signs, a second digit", night("ab;".repeat(18) + "a;a;r1" + "2"), 60);
        at("60 signs, the last a ;", night(open), 60);
        at("61 signs, the first 60 could go on", night(open + "a"), 60);
        at("80 signs", night("a;".repeat(40)), 60);
        at("60 signs, the last an r", night("-;".repeat(29) + "-r"), 59);
        at("an r, and its number too late", night("ab;".repeat(19) + "a;r" + "12"), 60);
        at("a !, and its letter too late", night("ab;".repeat(19) + "a;!" + "a"), 60);
        at("a letter too late", night("ab;".repeat(19) + "a;b" + "c"), 60);
        at("a letter told already, too late", night("ab;".repeat(19) + "a;b" + "b"), 60);
        at("more than 60, one of them wrong", night("ab;".repeat(19) + "a;;" + "ab"), 59);
        at("more than 60, one told already", night("ab;".repeat(19) + "aba" + ";a"), 59);
        at("more than 60, the first wrong", night(";".repeat(80)), 0);
        known("nothing is done", x.count(2), 20);
        known("nothing more to undo", x.count(11), past);
    }

    private static void undo() {
        begin("246", "x.1");
        tellKnownRow();
        known("nothing to undo", x.undo(), -1);
        for (int i = 0; i < 13; i++) {
            x.round(i % 2 == 0 ? 1 : 2);
        }
        Due.is("twelve are kept", x.count(11), 12);
        x.bound(99);
        for (int i = 11; i >= 0; i--) {
            known("undo", x.undo(), i);
            Due.is("now", x.count(2), i + 1);
            Due.is("missed", x.missed(1), i % 2 == 0 ? 1 : 2);
            Due.is("where", x.ringer(i % 2, 5), 1);
        }
        known("the oldest is not", x.undo(), -1);
        Due.is("one round stays", x.count(2), 1);
        x.sheet(2, 3, 50, 20);
        x.round(7);
        x.sheet(3, 0, 0, 0);
        x.undo();
        Due.is("tired as ahead of it", x.count(6), 210);
        Due.is("deaths as ahead of it", x.count(3), 0);
        Due.is("slept as ahead of it", x.count(5), 1);
        Due.is("places as ahead of it", x.count(8), 1);
        Due.is("the order as ahead of it", x.bell(0), 1);
        x.sheet(2, 3, 99, 0);
        x.rounds(2);
        x.beer(0);
        Due.is("undo beer", x.undo(), 1);
        Due.is("drifts", x.count(4), 6);
        Due.is("undo rounds", x.undo(), 0);
        Due.is("no drifts", x.count(4), 0);
        x.round(0);
        at("a wrong method", method("y"), 0);
        Due.is("forgets nothing", x.count(11), 1);
        x.again(0);
        Due.is("again of nothing neither", x.count(11), 1);
        Due.put(x, "12");
        x.tower();
        Due.is("a wrong tower neither", x.count(11), 1);
        rule("w");
        Due.is("a rule neither", x.count(11), 1);
        method("x");
        Due.is("a method does", x.count(11), 0);
    }

    // ---- promises 16 to 21

    private static void order() {
        begin("24681", "x.1.23");
        int[][] due = {{0, 1, 2, 3, 4}, {1, 0, 3, 2, 4}, {1, 3, 0, 4, 2}, {1, 3, 0, 2, 4}, {3, 1, 2, 0, 4}};
        for (int n = 0; n < due.length; n++) {
            Due.is("order " + n, x.order(n), due[n][0]);
            Due.row("order " + n, x, due[n]);
        }
        x.rounds(2);
        Due.is("from 2 on", x.order(2), 3);
        Due.row("from 2 on", x, due[4]);
        Due.is("order 201", x.order(201), -1);
        Due.is("order -1", x.order(-1), -1);
        Due.row("the row stays", x, due[4]);
        Due.is("nothing changes", x.count(2), 2);
        begin("111", "x.1");
        x.order(200);
        Due.row("200 is 2 behind 33 times 6", x, 1, 2, 0);
    }

    private static void truthAndLead() {
        begin("246", "x.1");
        Due.is("truth of all six", x.truth(), 6);
        Due.row("truth", x, 0);
        begin("246", "123.x");
        Due.is("an order stays", x.truth(), 1);
        Due.row("an order stays", x, 0);
        Due.is("lead", x.lead(), 4);
        begin("246", "123");
        Due.is("it stays at the only change", x.lead(), 1);
        begin("246", "x.123");
        Due.is("it stays behind one", x.truth(), 2);
        Due.row("it stays behind one", x, 1);
        Due.is("lead", x.lead(), 4);
        x.rounds(1);
        Due.is("at another change", x.truth(), 1);
        begin("1234567", "x.1");
        Due.is("seven bells hunt", x.truth(), 14);
        Due.is("lead of seven", x.lead(), 14);
        begin("123456", "x");
        tellKnownRow();
        known("lead", x.lead(), 2);
        x.truth();
        Due.row("truth", x, 0);
        begin("1234567", LONGER);
        tellKnownRow();
        known("no order comes again in 200", x.truth(), -2);
        known("nor this one", x.lead(), -2);
        begin("1234567", "x.1.1234.123.x.1.123.3.567.7.147.x.3.1.147.x.3.147.7.147");
        Due.is("the first comes again in the 200th", x.truth(), 200);
        Due.row("the first comes again in the 200th", x, 0);
        Due.is("at the same change", x.lead(), 200);
    }

    private static void leads() {
        begin("246", "x.1");
        Due.is("bell 2 leads in 3", x.leads(2, 0), 3);
        Due.row("bell 2 leads", x, 66);
        Due.is("bell 0 leads now", x.leads(0, 0), 0);
        Due.row("now and in 5", x, 67);
        Due.is("bell 0 is last", x.leads(0, 2), 2);
        Due.row("in 2 and 3", x, 66);
        int[][] wrong = {{3, 0}, {0, 3}, {-1, 0}, {0, -1}};
        for (int[] w : wrong) {
            Due.is("leads", x.leads(w[0], w[1]), -1);
        }
        begin("2468", "x");
        x.leads(0, 0);
        Due.row("every other round, the 200th left out", x, 100);
        begin("2468", "1234");
        tellKnownRow();
        known("never there", x.leads(1, 0), -2);
        Due.is("always there", x.leads(1, 1), 0);
        Due.row("always there", x, 200);
    }

    private static void comes() {
        begin("2468", "x.14");
        int[] due = {0, 1, 2, 3, 4, 5, 6, 7};
        String[] orders = {"abcd", "badc", "bdac", "dbca", "dcba", "cdab", "cadb", "acbd"};
        int[] same = {4, 0, 0, 2, 0, 0, 0, 2};
        for (int i = 0; i < orders.length; i++) {
            Due.is("comes " + orders[i], comes(orders[i]), due[i]);
            Due.row("comes " + orders[i], x, same[i]);
        }
        tellKnownRow();
        known("it never comes", comes("abdc"), -2);
        String[] wrong = {"", "a", "abc", "abca", "e", "abcde", "abce", "ABCD", "aab", "abcd "};
        int[] p = {0, 1, 3, 3, 0, 4, 3, 0, 1, 4};
        for (int i = 0; i < wrong.length; i++) {
            at("comes " + wrong[i], comes(wrong[i]), p[i]);
        }
        Due.row("the row stays", x, 197);
        x.rounds(1);
        Due.is("from now on", comes("badc"), 0);
        Due.row("from now on", x, 4);
        Due.is("it was just there", comes("abcd"), 7);
        begin("1234567", LONGER);
        x.order(200);
        StringBuilder order = new StringBuilder();
        for (int i = 0; i < 7; i++) {
            order.append((char) ('a' + x.row(i)));
        }
        Due.is("in the 200th", comes(order.toString()), 200);
        x.order(1);
        StringBuilder next = new StringBuilder();
        for (int i = 0; i < 7; i++) {
            next.append((char) ('a' + x.row(i)));
        }
        x.keep(0);
        x.rounds(1);
        Due.is("a round on, this one is now", comes(next.toString()), 0);
        Due.is("and that one in the 199th", comes(order.toString()), 199);
    }

    private static void course() {
        begin("246", "x.1");
        // orders 012 102 120 210 201 021
        Due.is("0 and 1", x.course(0, 1, 6), 4);
        Due.row("0 and 1", x, 0);
        Due.is("0 and 2", x.course(0, 2, 6), 4);
        Due.row("0 and 2", x, 1);
        Due.is("2 and 0 the same", x.course(2, 0, 2), 1);
        Due.row("2 and 0", x, 1);
        Due.is("not in one", x.course(0, 2, 1), 0);
        Due.row("not in one", x, -1);
        Due.is("200", x.course(0, 1, 200), 33 * 4 + 2);
        int[][] wrong = {{0, 0, 6}, {0, 3, 6}, {-1, 0, 6}, {0, 1, 0}, {0, 1, 201}, {3, 0, 1}};
        for (int[] w : wrong) {
            Due.is("course", x.course(w[0], w[1], w[2]), -1);
        }
    }

    // ---- promises 22 to 26

    private static void may() {
        begin("24681", "x");
        tellKnownRow();
        x.set(0, 3);
        known("nobody", x.may(0), 0);
        known("three apart", x.may(21), 0);
        known("the tenor", x.may(8), 5);
        known("neighbours", x.may(17 | 2), 3);
        known("bits of none such", x.may(32), -1);
        known("below 0", x.may(-1), -1);
        x.set(0, 2);
        known("three are too many", x.may(21), 1);
        Due.is("nothing changes", x.count(3), 0);
    }

    private static void lawful() {
        begin("24689", "x");
        Due.is("one each, but the tenor", x.lawful(), 5);
        Due.row("nobody is tired", x, 0, 15);
        x.sheet(2, 5, 30, -5);
        Due.is("one each", x.lawful(), 5);
        Due.row("the first is the most tired", x, 1, 15);
        x.set(0, 2);
        // 0 . 2, 0 . . 3, . 1 . 3
        Due.is("two each", x.lawful(), 8);
        Due.row("0 and 2", x, 5, 15);
        x.sheet(2, 5, 0, 30);
        x.lawful();
        Due.row("1 and 3", x, 10, 15);
        x.sheet(2, 5, 30, 0);
        x.lawful();
        Due.row("of as good ones the least bits", x, 5, 15);
        x.round(5);
        Due.is("0 and 2 rest; where they were are 1 and 3", x.lawful(), 2);
        Due.row("4 alone", x, 16, 16);
    }

    private static void covers() {
        begin("24689", "x");
        Due.is("one at most", x.covers(0), 0);
        Due.row("the others alone", x, 14);
        x.set(0, 2);
        Due.is("with 0", x.covers(0), 12);
        Due.row("not 1", x, 2);
        Due.is("with 2", x.covers(2), 1);
        Due.row("not 1, 3", x, 10);
        tellKnownRow();
        known("the tenor may not", x.covers(4), -2);
        known("none such", x.covers(5), -1);
        known("below 0", x.covers(-1), -1);
        x.round(1);
        x.bound(99);
        known("it missed", x.covers(0), -2);
        known("where it missed", x.covers(1), -2);
    }

    private static void rivals() {
        begin("246", "x.1");
        Due.is("0 and 1", x.rivals(0, 1, 5), 1);
        Due.row("1 is where 0 was", x, 4);
        Due.is("in one round", x.rivals(0, 1, 1), 1);
        Due.row("all are", x, 0);
        Due.is("2 and 0", x.rivals(2, 0, 5), 0);
        Due.row("the tenor", x, 5);
        begin("24681", "12345");
        Due.is("0 and 1 at rest", x.rivals(0, 1, 60), 60);
        Due.row("at rest", x, 0);
        Due.is("3 is the tenor: in round 7", x.rivals(0, 3, 60), 7);
        Due.row("the tenor in 7", x, 5);
        x.round(1);
        Due.is("0 missed", x.rivals(0, 1, 60), 0);
        Due.row("0 missed", x, 2);
        Due.is("1 ahead of 0", x.rivals(1, 0, 60), 60);
        Due.is("the tenor is the other: in 2, 4, .., 14", x.rivals(1, 3, 60), 13);
        Due.is("the tenor begins: in 1, 3, 5, 7", x.rivals(3, 1, 60), 6);
        Due.is("1 ahead of 0 once more", x.rivals(1, 0, 60), 60);
        int[][] wrong = {{0, 0, 5}, {0, 5, 5}, {5, 0, 5}, {-1, 0, 5}, {0, -1, 5}, {0, 1, 0}, {0, 1, 61}};
        for (int[] w : wrong) {
            Due.is("rivals", x.rivals(w[0], w[1], w[2]), -1);
        }
        Due.row("the row stays", x, 0);
    }

    private static void matches() {
        begin("24681", "12345");
        Due.is("none", x.matches(0, 5), 0);
        Due.row("none", x, -1, -1, -1, -1, -1);
        Due.is("one is left over", x.matches(4, 5), 0);
        Due.row("one is left over", x, -1, -1, -1, -1, -1);
        Due.is("two", x.matches(6, 60), 60);
        Due.row("two", x, -1, 2, 1, -1, -1);
        Due.is("four", x.matches(15, 20), 27);
        Due.row("of as good ones the least row", x, 1, 0, 3, 2, -1);
        Due.is("five: the tenor is left over", x.matches(31, 20), 40);
        Due.row("five", x, 1, 0, 4, -1, 2);
        Due.is("five in one round", x.matches(31, 1), 2);
        // 3 is the tenor: it may not begin, so it can't be with 4
        Due.row("the first is left over", x, -1, 3, 4, 1, 2);
        int[][] wrong = {{32, 5}, {-1, 5}, {3, 0}, {3, 61}};
        for (int[] w : wrong) {
            Due.is("matches", x.matches(w[0], w[1]), -1);
        }
        Due.row("the row stays", x, -1, 3, 4, 1, 2);
        begin("2468135", "x.1");
        Due.is("a bell hunts", x.matches(127, 9) >= 0, true);
        int over = 0;
        for (int i = 0; i < 7; i++) {
            int with = x.row(i);
            over += with < 0 ? 1 : 0;
            Due.is("with each other", with < 0 ? i : x.row(with), i);
        }
        Due.is("one is left over", over, 1);
    }

    // ---- promises 27 to 29

    private static void sleeps() {
        begin("246", "x.1");
        Due.is("three", x.sleeps(3), 3);
        Due.row("three", x, 1, 4, 2);
        Due.is("one", x.sleeps(1), 1);
        Due.row("one", x, 1);
        x.round(1);
        Due.is("1 is where 0 was, 2 is left", x.sleeps(1), 1);
        Due.row("behind 0", x, 4);
        begin("11111", "12345");
        x.set(0, 3);
        Due.is("two rounds", x.sleeps(2), 5);
        // 4 is the tenor: 0 and 2 in the first, 1 and 3 in the next; or 1 and 3 ahead of 0, 2, 4
        Due.row("two rounds", x, 10, 21);
        // 2 and 3 in turn; the tenor may not in 0 and 7, so one of these has 2 for 3
        Due.is("twelve rounds", x.sleeps(12), 29);
        int[] wrong = {0, -1, 13, Integer.MAX_VALUE};
        for (int w : wrong) {
            Due.is("sleeps " + w, x.sleeps(w), -1);
        }
        Due.is("the row stays", x.count(12), 12);
        Due.is("the least row begins", x.row(0), 5);
        Due.is("the row's end", x.row(11), 10);
    }

    private static void naps() {
        begin("246", "x.1");
        Due.is("once", x.naps(1, 12), 3);
        Due.row("once", x, 1, 4, 2);
        Due.is("in two", x.naps(1, 2), -2);
        Due.is("in one", x.naps(1, 1), -2);
        Due.row("the row stays", x, 1, 4, 2);
        begin("11111", "12345");
        x.set(0, 3);
        Due.is("once in two", x.naps(1, 2), 2);
        Due.row("once in two", x, 10, 21);
        Due.is("twice in four", x.naps(2, 12), 4);
        Due.row("twice in four", x, 10, 21, 10, 21);
        Due.is("twice in three", x.naps(2, 3), -2);
        int[][] wrong = {{0, 5}, {3, 5}, {1, 0}, {1, 13}, {-1, 5}, {1, -1}};
        for (int[] w : wrong) {
            Due.is("naps", x.naps(w[0], w[1]), -1);
        }
        tellTower("111111");
        Due.is("six bells", x.naps(1, 12), -3);
        Due.is("NONE is asked first", x.naps(3, 12), -1);
        Due.is("and of n", x.naps(1, 13), -1);
    }

    private static void bound() {
        x = new EachMayMissOne();
        Due.is("without bells", x.bound(99), 0);
        Due.row("without bells", x, 0);
        tellTower("1111111");
        Due.is("7 bells, most 1", x.bound(3), 21);
        Due.row("by (2)", x, 5);
        x.set(0, 2);
        Due.is("most 2", x.bound(3), 11);
        x.set(0, 3);
        Due.is("most 3", x.bound(3), 7);
        Due.is("most 3, once", x.bound(1), 3);
        Due.row("once", x, 1);
        Due.is("99 times", x.bound(99), 231);
        Due.row("99 times", x, 197);
        Due.is("0 times", x.bound(0), -1);
        Due.is("100 times", x.bound(100), -1);
        Due.row("the row stays", x, 197);
    }

    // ---- promises 30 to 34

    private static void missed() {
        begin("11111", "x.1");
        for (int i = 0; i < 25; i++) {
            x.round(i);
        }
        for (int k = 1; k <= 20; k++) {
            Due.is("missed " + k, x.missed(k), 25 - k);
        }
        tellKnownRow();
        known("missed 21", x.missed(21), -2);
        known("missed 0", x.missed(0), -1);
        known("missed -1", x.missed(Integer.MIN_VALUE), -1);
        method("1");
        Due.is("a method changes nothing", x.missed(3), 22);
        x.keep(0);
        x.rounds(30);
        Due.is("all are gone", x.missed(20), 0);
        x.again(0);
        Due.is("and here again", x.missed(20), 5);
    }

    private static void heard() {
        String stay = "123.";
        begin("111", stay + "x." + stay.repeat(9) + "x.x");
        x.round(0);
        Due.is("0 in 0", x.heard(0, 0), 0);
        Due.row("0 now, then 1", x, 3);
        Due.is("1 in 1", x.heard(0, 1), 1);
        Due.row("1 from 1 to 10", x, 2);
        Due.is("1 in 2", x.heard(0, 2), 1);
        Due.row("0 in 11", x, 3);
        Due.is("the last place", x.heard(2, 60), 2);
        Due.row("the last place", x, 4);
        int[][] wrong = {{3, 0}, {-1, 0}, {0, 61}, {0, -1}};
        for (int[] w : wrong) {
            Due.is("heard", x.heard(w[0], w[1]), -1);
        }
        Due.row("the row stays", x, 4);
    }

    private static void reads() {
        begin("246", "x.1");
        // orders 012 102 120 210
        Due.is("one gap", reads("-1"), 2);
        Due.row("one gap", x, -1, 1);
        Due.is("a tenor", reads("3--2"), 0);
        Due.row("all rounds are told", x, 2, -1, -1, 1);
        Due.is("the place again", reads("11-"), 1);
        Due.row("the place again", x, 0, 1, -1);
        Due.is("the bell again", reads("-23"), 2);
        Due.row("0 twice", x, -1, 0, 0);
        Due.is("14 signs", reads("-".repeat(14)), 14);
        Due.is("14 numbers", x.count(12), 14);
        tellKnownRow();
        String[] wrong = {"", "4", "0", "1x", "-".repeat(15), "-".repeat(14) + "x", "---a", "1 "};
        int[] p = {0, 0, 0, 1, 14, 14, 3, 1};
        for (int i = 0; i < wrong.length; i++) {
            at("reads " + wrong[i], reads(wrong[i]), p[i]);
        }
        known("nothing changes", x.count(2), 0);
        x.round(1);
        Due.is("behind a round", reads("3"), 1);
        Due.is("behind a round at 1", reads("1"), 0);
    }

    private static void said() {
        begin("246", "x.1");
        tellKnownRow();
        known("nothing is known", x.said(1), -2);
        int[] sets = {1, 0, 6, 4, 0, 2, 7, 0, 4, 2};
        for (int those : sets) {
            x.round(those);
        }
        Due.is("one", x.said(1), 2);
        Due.row("one", x, 1);
        Due.is("three", x.said(3), 3 * 4 + 2);
        Due.row("three", x, 2);
        // 0 2 3 0 2 1 0 3 2 in base 4
        Due.is("nine", x.said(9), ((((((2 * 4 + 3) * 4) * 4 + 2) * 4 + 1) * 4) * 4 + 3) * 4 + 2);
        Due.row("nine", x, 6);
        Due.is("ten", x.said(10), -1);
        Due.is("0", x.said(0), -1);
        Due.row("the row stays", x, 6);
        begin("1234567", "x.1");
        for (int i = 0; i < 9; i++) {
            x.round(64);
        }
        Due.is("the greatest", x.said(9), 8 * 8 * 8 * 8 * 8 * 8 * 8 * 8 * 8 - 1);
        x.undo();
        Due.is("eight are known", x.said(9), -2);
    }

    private static void says() {
        begin("246", "x.1");
        Due.is("7 in two", x.says(7, 2), 1);
        Due.row("7 in two", x, 1, 4);
        Due.is("4 in two", x.says(4, 2), 1);
        Due.row("4 in two", x, 1, 0);
        Due.is("6 in two: 1 is where 0 was", x.says(6, 2), 0);
        Due.row("no row for that", x, 1, 0);
        Due.is("5 in two: 0 twice", x.says(5, 2), 0);
        Due.is("15 in two", x.says(15, 2), 0);
        Due.is("16 in two", x.says(16, 2), -2);
        Due.is("0 in nine", x.says(0, 9), 1);
        Due.row("0 in nine", x, 0, 0, 0, 0, 0, 0, 0, 0, 0);
        tellKnownRow();
        int[][] wrong = {{-1, 1}, {0, 0}, {0, 10}, {Integer.MIN_VALUE, 9}, {0, -1}};
        for (int[] w : wrong) {
            known("says", x.says(w[0], w[1]), -1);
        }
        known("the greatest int", x.says(Integer.MAX_VALUE, 9), -2);
        x.round(1);
        x.says(0, 1);
        Due.is("0 missed just now", x.says(1, 1), 0);
        Due.is("2 may", x.says(3, 1), 1);
        Due.row("2 may", x, 4);
    }

    // ---- promises 35 to 39

    private static void fails() {
        begin("246", "x.1");
        // 2, 3, 4 a round: the last one has 96 behind 24, 100 would be behind 25
        Due.is("fails", x.fails(), 25);
        Due.row("fails", x, 4);
        x.sheet(2, 3, 98, -1);
        Due.is("all at once", x.fails(), 1);
        Due.row("all at once", x, 7);
        rule("0");
        tellKnownRow();
        known("never", x.fails(), -2);
        known("lasts never", x.lasts(), -2);
        x.sheet(3, 0, 0, 0);
        rule("r=199");
        known("one more in 200 rounds is no drift", x.fails(), -2);
        rule("99*(r=199)+(r=0)");
        Due.is("in the 200th", x.fails(), 200);
        Due.row("in the 200th", x, 7);
        x.bound(99);
        rule("99*(r=200)+(r=0)");
        known("in the 201st", x.fails(), -2);
        Due.is("nothing changes", x.count(4), 0);
    }

    private static void lasts() {
        begin("246", "123");
        x.sheet(2, 3, 90, 0);
        // round 0: 0 misses (2 is the tenor): 81 93 94; round 1: 2: 83 96 85; 2: 1: 85 87 89; ..
        Due.is("all miss in turn", x.lasts(), -2);
        Due.is("nobody misses", x.fails(), 3);
        x.sheet(2, 3, 97, 0);
        rule("3*(i=1)+3*(i=2)*(r>0)");
        // 0 misses first of equals, so 1 drifts at once
        Due.is("the first of equals", x.lasts(), 1);
        Due.row("the first of equals", x, 2);
        rule("3*(i=0)");
        // round 0: 0 rests (88); round 1: 1; round 2: 2; round 3: 0 has 94; 1 has 88; 2 88: 0 misses
        Due.is("never", x.lasts(), -2);
        rule("99*(i=2)*(m=0)");
        Due.is("never nobody", x.lasts(), -2);
        x.round(3);
        rule("50*(i=2)*(r=1)");
        x.sheet(2, 3, 97, 0);
        // 0 and 1 missed, so 2 does
        Due.is("2 rests at the right time", x.lasts(), -2);
        begin("246", "123");
        x.round(3);
        x.undo();
        x.sheet(2, 3, 99, 0);
        x.round(4);
        rule("9*(i=2)");
        // 2 missed, so 0 does, and 2 is at 99; then 1, the first of equals, does
        Due.is("the first of equals again", x.lasts(), 2);
        Due.row("the first of equals again", x, 4);
    }

    private static void stout() {
        begin("246", "x.1");
        Due.is("none is needed", x.stout(24), 0);
        Due.row("none is needed", x, 0, 0, 0);
        tellKnownRow();
        known("25 rounds of 4", x.stout(25), -2);
        x.sheet(2, 3, 50, 0);
        // 20 rounds: 40, 60, 80 more; 59, 39, 19 may be at first
        Due.is("20 rounds", x.stout(20), 6);
        Due.row("20 rounds", x, 0, 2, 4);
        x.sheet(2, 3, 99, 0);
        Due.is("one round", x.stout(1), 3);
        Due.row("one round", x, 1, 1, 1);
        rule("9-t/10");
        x.sheet(2, 3, 91, 8);
        // 91 and 0: nothing; 99 and 0: nothing: beer would make it worse
        Due.is("none is best", x.stout(60), 0);
        rule("(t>90)*99");
        Due.is("under 91", x.stout(60), 3);
        rule("99*(t=0)+9*(t>95)");
        x.sheet(2, 3, 9, 90);
        Due.is("one beer serves", x.stout(1), 2);
        Due.row("one beer serves", x, 0, 1, 1);
        x.bound(99);
        int[] wrong = {0, -1, 61};
        for (int w : wrong) {
            known("stout " + w, x.stout(w), -1);
        }
        rule("(t<1)*(r<1)*9+(t>8)*99");
        x.sheet(2, 3, 99, 0);
        Due.is("ten beers each, one round", x.stout(1), 30);
        x.bound(99);
        known("ten can't help in two", x.stout(2), -2);
    }

    private static void weariest() {
        begin("246", "x.1");
        Due.is("now all are equal", x.weariest(0), 0);
        Due.row("now", x, 0, 0);
        Due.is("in ten", x.weariest(10), 2);
        Due.row("in ten", x, 40, 0);
        Due.is("in 60", x.weariest(60), 2);
        Due.row("in 60", x, 99, 36);
        x.sheet(2, 3, 90, -10);
        Due.is("0 is at 90", x.weariest(0), 0);
        Due.is("0 drifts first", x.weariest(6), 0);
        Due.row("0 drifts first", x, 99, 2);
        // drifts behind n rounds: 0 from the 5th on, 1 from the 7th on, 2 from the 8th on: equal at 99 and first
        Due.is("a drift counts 100", x.weariest(60), 0);
        Due.row("a drift counts 100", x, 99, 56);
        rule("(i=1)*50");
        x.sheet(2, 3, 49, 0);
        Due.is("99 without a drift", x.weariest(1), 1);
        Due.row("99 without a drift", x, 99, 0);
        int[] wrong = {-1, 61};
        for (int w : wrong) {
            Due.is("weariest " + w, x.weariest(w), -1);
        }
        Due.row("the row stays", x, 99, 0);
        x.rounds(3);
        x.sheet(2, 3, 60, -10);
        Due.is("drifts of old don't count", x.weariest(0), 0);
        Due.row("drifts of old don't count", x, 60, 0);
        Due.is("new ones do", x.weariest(2), 1);
        Due.row("new ones do", x, 99, 2);
    }

    private static void coughs() {
        begin("246", "x.1");
        // R by 65536 from seed 1: 16838, 5758, 10113, 17515, 31051, 5627, 23010, 7419 and the highest bits
        int drawn = 1;
        int deaths = 0;
        x.keep(0);
        for (int i = 0; i < 60; i++) {
            drawn = drawn * 1103515245 + 12345;
            int number = (int) ((drawn & 0xFFFFFFFFL) / 65536 % 5);
            deaths += x.round(number < 3 ? 1 << number : 0) > 0 ? 1 : 0;
        }
        int slept = Math.max(x.ringer(0, 2), Math.max(x.ringer(1, 2), x.ringer(2, 2)));
        int who = x.ringer(0, 2) == slept ? 0 : x.ringer(1, 2) == slept ? 1 : 2;
        int drifts = x.count(4);
        x.again(0);
        Due.is("as rung", x.coughs(1, 60, 2), deaths);
        Due.row("as rung", x, drifts, who, slept);
        Due.is("nothing changes", x.count(2), 0);
        // seed 1, n 3 and k 1: 16838 % 4 = 2: the tenor in round 0 dies
        Due.is("one death", x.coughs(1, 1, 1), 1);
        Due.row("one death", x, 0, 2, 1);
        // 16838 % 12 = 2; with 7 bells and 9: 16838 % 16 = 6; with 7 and 3: 16838 % 10 = 8: nobody
        tellTower("1234567");
        Due.is("the seventh", x.coughs(1, 1, 9), 1);
        Due.row("the seventh", x, 0, 6, 1);
        Due.is("nobody", x.coughs(1, 1, 3), 0);
        Due.row("nobody", x, 0, -1, 0);
        x.sheet(2, 7, 99, 0);
        x.round(3);
        x.round(3);
        x.rounds(1);
        x.sheet(2, 7, 99, 0);
        Due.is("deaths of old don't count", x.coughs(1, 1, 3), 0);
        Due.row("nor naps, drifts of old", x, 7, -1, 0);
        // from seed 2: 33676 % 10 = 6
        Due.is("the tenor at 3", x.coughs(2, 1, 3), 0);
        Due.row("the tenor at 3", x, 6, 6, 1);
        int first = 0;
        while (((first * 1103515245 + 12345) >>> 16) % 10 != 0) {
            first++;
        }
        x.coughs(first, 1, 3);
        Due.row("the first ringer", x, 6, 0, 1);
        x.coughs(1, 1, 3);
        int[][] wrong = {{1, 0, 1}, {1, 61, 1}, {1, 1, 0}, {1, 1, 10}, {1, -1, 1}};
        for (int[] w : wrong) {
            Due.is("coughs", x.coughs(w[0], w[1], w[2]), -1);
        }
        Due.row("the row stays", x, 7, -1, 0);
    }

    // ---- promises 40 to 43

    private static void keepAndAgain() {
        begin("246", "x.1");
        Due.is("nothing kept", x.again(0), false);
        x.sheet(2, 3, 99, 0);
        x.round(7);
        x.round(0);
        Due.is("keep 0", x.keep(0), true);
        x.round(1);
        x.round(1);
        x.set(0, 2);
        x.set(1, 33);
        rule("7");
        Due.is("keep 1", x.keep(1), true);
        x.sheet(3, 0, 0, 0);
        x.rounds(5);
        tellKnownRow();
        Due.is("again 0", x.again(0), true);
        int[] due = {3, 2, 2, 1, 0, 3, 99 * 3 - 27 + 2 + 3 + 4, 2, 0, 2, 33, 0, 1, 0};
        for (int i = 0; i < due.length; i++) {
            Due.is("again: count " + i, x.count(i), due[i]);
        }
        Due.is("the order", x.bell(0), 1);
        Due.is("what was missed", x.missed(2), 7);
        Due.is("no more is known", x.missed(3), -2);
        x.round(1);
        Due.is("again 1", x.again(1), true);
        Due.is("now", x.count(2), 4);
        Due.is("who missed", x.ringer(0, 5), 1);
        Due.is("nothing to undo", x.undo(), -1);
        Due.is("again 0 once more", x.again(0), true);
        x.round(2);
        Due.is("again 2", x.again(2), false);
        Due.is("again -1", x.again(-1), false);
        Due.is("keep 2", x.keep(2), false);
        Due.is("keep -1", x.keep(-1), false);
        Due.is("a refused one forgets nothing", x.count(11), 1);
        method("y");
        Due.is("a wrong method is none", x.again(0), true);
        method("");
        Due.is("a method was told 0", x.again(0), false);
        Due.is("a method was told 1", x.again(1), false);
        x.keep(1);
        Due.is("kept since", x.again(1), true);
        Due.is("not this one", x.again(0), false);
        Due.put(x, "12");
        x.tower();
        Due.is("a wrong tower is none", x.again(1), true);
        tellTower("246");
        Due.is("a tower was told", x.again(1), false);
    }

    private static void count() {
        begin("24682", "x.1.25");
        x.set(0, 2);
        x.set(1, 12);
        x.sheet(2, 5, 98, -1);
        x.round(9);
        x.round(3);
        Due.put(x, "abc");
        x.bound(4);
        int[] due = {5, 3, 2, 2, 0, 4, 0, 3, 0, 2, 12, 2, 1, 3};
        for (int i = 0; i < due.length; i++) {
            if (i != 4 && i != 6 && i != 8) {
                Due.is("count " + i, x.count(i), due[i]);
            }
        }
        int drifts = 0;
        int tired = 0;
        int places = 0;
        for (int i = 0; i < 5; i++) {
            drifts += x.ringer(i, 3);
            tired += x.ringer(i, 1);
        }
        // behind x the order is 1 0 3 2 4: 0 and 1 are in 1 and 0
        places = 3;
        Due.is("count 4", x.count(4), drifts);
        Due.is("count 6", x.count(6), tired);
        Due.is("count 8", x.count(8), places);
        int[] wrong = {-1, 14, Integer.MIN_VALUE, Integer.MAX_VALUE};
        for (int w : wrong) {
            Due.is("count " + w, x.count(w), -100);
        }
    }

    private static void row() {
        x = new EachMayMissOne();
        Due.isThrown("row 0 of none", () -> x.row(0));
        tellTower("1234567");
        Due.isThrown("a tower tells none", () -> x.row(0));
        x.order(0);
        Due.is("row 6", x.row(6), 6);
        Due.isThrown("row 7", () -> x.row(7));
        Due.isThrown("row -1", () -> x.row(-1));
        Due.isThrown("row MIN", () -> x.row(Integer.MIN_VALUE));
        x.bound(1);
        Due.isThrown("a shorter row", () -> x.row(1));
    }

    /** What is asked first where there are no bells. */
    private static void noBells() {
        x = new EachMayMissOne();
        x.bound(1);
        Due.is("round", x.round(-1), -2);
        Due.is("rounds", x.rounds(61), -2);
        Due.is("order", x.order(201), -2);
        Due.is("truth", x.truth(), -2);
        Due.is("lead", x.lead(), -2);
        Due.is("may", x.may(-1), -2);
        Due.is("lawful", x.lawful(), -2);
        Due.is("fails", x.fails(), -2);
        Due.is("lasts", x.lasts(), -2);
        at("comes", comes("x") - -100 - 1, 0);
        at("reads", reads("x") - -100 - 1, 0);
        Due.is("beer", x.beer(0), -1);
        Due.is("leads", x.leads(0, 0), -1);
        Due.is("course", x.course(0, 1, 1), -1);
        Due.is("covers", x.covers(0), -1);
        Due.is("rivals", x.rivals(0, 1, 1), -1);
        Due.is("sleeps", x.sleeps(1), -1);
        Due.is("naps", x.naps(1, 1), -1);
        Due.is("heard", x.heard(0, 0), -1);
        Due.is("said", x.said(1), -1);
        Due.is("says", x.says(0, 1), -1);
        Due.is("stout", x.stout(1), -1);
        Due.is("weariest", x.weariest(0), -1);
        Due.is("coughs", x.coughs(1, 1, 1), -1);
        Due.is("matches of a bit", x.matches(1, 1), -1);
        Due.is("matches of no rounds", x.matches(0, 0), -1);
        Due.is("missed 0", x.missed(0), -1);
        Due.is("missed 1", x.missed(1), -2);
        Due.is("undo", x.undo(), -1);
        Due.row("the row stays", x, 0);
        Due.is("matches of none", x.matches(0, 1), 0);
        Due.row("matches of none", x);
        Due.is("sheet", x.sheet(2, 7, 50, 0), 0);
        Due.is("sheet missing", x.sheet(3, 7, 50, 0), -3);
        Due.is("night", night("-"), 0);
        Due.row("night", x, 1, 0, 0);
        Due.is("night of a beer", night("!a"), 0);
        Due.is("night of no rounds", night("r0"), 0);
        Due.isThrown("ringer", () -> x.ringer(0, 0));
    }
}
