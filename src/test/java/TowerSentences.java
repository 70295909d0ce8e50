/** The sentences of promises 1 to 15 that name a boundary case, each with a test of its own. */
public final class TowerSentences {
    private static final String TWENTY = "x.".repeat(19) + "x";
    private static final String SIXTY = "1234.".repeat(11) + "12345";
    private static final String FORTY = "1+".repeat(19) + "12";
    private static final String LONG_NIGHT = "r1;".repeat(19) + "r01";

    private TowerSentences() {
    }

    public static void main(String[] args) {
        aNewObject();
        signAndEnd();
        tower();
        towerAnew();
        method();
        methodSigns();
        rule();
        ringerAndBell();
        set();
        sheet();
        sheetRefused();
        round();
        rounds();
        beer();
        night();
        nightTillOneCannot();
        nightSigns();
        undo();
        undone();
        forgotten();
        Script.close("TowerSentences");
    }

    private static void aNewObject() {
        Script.says("1: No BELLS", "count 0 = 0", "count 1 = 1", "count 2 = 0", "count 3 = 0", "count 4 = 0", "count 5 = 0", "count 6 = 0",
            "count 7 = -1", "count 8 = 0", "count 9 = 1", "count 10 = 9", "count 11 = 0", "count 12 = 0", "count 13 = 0",
            "ringer 0 0 = throws", "bell 0 = throws", "row 0 = throws", "round 0 = -2");
    }

    private static void signAndEnd() {
        Script.says("2: Four signs come behind THE TEXT .. how many it has", "sign 0 = 4", "sign 0 = 8", "end 1 = true", "sign 0 = 5",
            "count 13 = 5");
        Script.says("2: of v the highest byte first", "sign 0x39383700 = 4", "end 3", "tower = 3", "ringer 0 0 = 9", "ringer 1 0 = 8",
            "ringer 2 0 = 7");
        Script.says("2: .. v below 0", "sign -1 = 4", "tower = -1", "sign -2147483648 = 4", "sign -2147483648 = 8", "sign 2147483647 = 12");
        Script.says("2: Refused: there would be more than 80", "text '" + "1".repeat(76) + "'", "sign 0 = 80", "sign 0 = -1",
            "count 13 = 80", "end 77 = true", "sign 0 = -1", "count 13 = 77", "end 76 = true", "sign 0 = 80");
        Script.says("3: THE TEXT has its first n signs alone: true", "sign 0x32343631 = 4", "end 4 = true", "count 13 = 4", "end 3 = true",
            "count 13 = 3", "tower = 3", "ringer 0 0 = 2", "end 0 = true", "count 13 = 0");
        Script.says("3: false if it has not so many", "end 1 = false", "sign 0 = 4", "end 5 = false", "count 13 = 4", "end 3", "end 4 = false",
            "end 2147483647 = false", "count 13 = 3");
        Script.says("3: .. or n is below 0", "sign 0 = 4", "end -1 = false", "end -2147483648 = false", "count 13 = 4", "end 0 = true");
    }

    private static void tower() {
        Script.says("4: how many BELLS", "tower '111' = 3", "tower '1111' = 4", "tower '11111' = 5", "tower '111111' = 6",
            "tower '1111111' = 7");
        Script.says("4: -1 - p: the sign at p can't stand there", "tower 'x' = -1", "tower '1x3' = -2", "tower '12x' = -3", "tower '120' = -3",
            "tower '123x' = -4", "tower '123 ' = -4", "tower '123456:' = -7");
        Script.says("4: its end, if there are fewer than 3", "tower '' = -1", "tower '1' = -2", "tower '12' = -3", "tower '123' = 3");
        Script.says("4: an eighth sign: at it", "tower '12345678' = -8", "tower '1234567x' = -8", "tower '12345678x9' = -8",
            "tower '1234567' = 7");
        Script.says("4: .. refused, nothing is told anew", "tower '246'", "method 'x.1'", "round 7", "keep 0", "tower '12' = -3",
            "count 0 = 3", "count 1 = 2", "count 2 = 1", "count 3 = 1", "missed 1 = 7", "count 11 = 1", "again 0 = true");
    }

    private static void towerAnew() {
        Script.says("4: THE METHOD is x", "tower '246'", "method '1.2.3'", "tower '1234'", "count 1 = 1", "order 1 = 1 : 1 0 3 2");
        Script.says("4: NOW 0", "tower '246'", "rounds 3", "tower '246'", "count 2 = 0", "bell 0 = 0", "may 4 = 5");
        Script.says("4: no DEATHS", "tower '246'", "round 7", "tower '246'", "count 3 = 0");
        Script.says("4: nothing was heard", "tower '246'", "round 7", "round 1", "tower '246'", "missed 1 = -2", "said 1 = -2", "count 8 = 0",
            "ringer 0 5 = 0", "may 1 = 0");
        Script.says("4: nothing can be undone", "tower '246'", "round 1", "tower '246'", "count 11 = 0", "undo = -1");
        Script.says("4: nothing is kept", "tower '246'", "keep 0", "keep 1", "tower '246'", "again 0 = false", "again 1 = false");
        Script.says("4: (THE RULE .. stays)", "rule '7'", "tower '246'", "ringer 0 6 = 7", "tower '1234567'", "ringer 6 6 = 7");
        Script.says("4: (.. MOST and REST stay)", "set 0 3", "set 1 44", "tower '246'", "count 9 = 3", "count 10 = 44", "tower '1234567'",
            "count 9 = 3", "count 10 = 44");
        Script.says("4: .. TIRED, SLEPT, DRIFTS are 0 at first", "tower '246'", "sheet 2 3 99 0", "round 1", "tower '246'", "count 4 = 0",
            "count 5 = 0", "count 6 = 0", "tower '1111111'", "sheet 2 7 99 0", "tower '246'", "count 6 = 0");
    }

    private static void method() {
        Script.says("5: THE TEXT is THE METHOD from now on", "tower '246'", "rounds 1", "method '1.3' = 2", "bell 0 = 1",
            "order 1 = 0 : 0 1 2", "order 2 = 0 : 0 2 1");
        Script.says("5: (an empty one: x): how many CHANGES", "tower '246'", "method '1.3' = 2", "method '1' = 1", "method '' = 1",
            "count 1 = 1", "order 1 = 1 : 1 0 2");
        Script.says("5: .. without BELLS", "method '' = 1", "method 'x.x' = 2", "method '1' = -1", "method 'x.1' = -3");
    }

    private static void methodSigns() {
        Script.says("5: -1 - p: the sign at p can't stand there", "tower '246'", "method 'y' = -1", "method 'X' = -1", "method 'x,x' = -2",
            "method 'x.y' = -3", "method '1 ' = -2", "method 'xx' = -2", "method '1x' = -2", "method 'x1' = -2", "method '.' = -1",
            "method 'x..x' = -3", "method '12-' = -3", "count 1 = 1");
        Script.says("5: its end, if it ends too early", "tower '246'", "method 'x.' = -3", "method '1.' = -3", "method '12.3.' = -6");
        Script.says("5: 60, if it has more and the first 60 could .. end", "tower '12345'", "method '" + SIXTY + ".' = -61",
            "method '" + SIXTY + "x' = -61", "method '" + SIXTY + "z' = -61", "method '" + SIXTY + ".x.x.x.x.x.x.x.x.x.x' = -61",
            "method '" + SIXTY + "' = 12");
        Script.says("5: 60, if it has more and the first 60 could go on", "tower '12345'", "method '" + "123.".repeat(15) + "1' = -61",
            "method '" + "123.".repeat(15) + "y' = -61", "method '" + "123.".repeat(15) + "' = -61",
            "method '" + "1234.".repeat(11) + "1.123x' = -61");
        Script.says("5: .. at a sign of the first 60 that can't stand, if there is one", "tower '12345'", "method 'y" + SIXTY + "' = -1",
            "method '" + "1234.".repeat(11) + "1.1y3.5' = -59", "method '" + "1234.".repeat(11) + "1234x.x' = -60");
        Script.says("5: a digit of no PLACE: at it", "tower '123'", "method '4' = -1", "method '14' = -2", "method 'x.4' = -3",
            "method '0' = -1", "method '8' = -1", "method '9' = -1", "method '1.28' = -4", "method '10' = -2", "method '123' = 1",
            "tower '1234567'", "method '7' = 1", "method '8' = -1", "method '12345678' = -8");
        Script.says("5: .. or not above the one ahead: at it", "tower '123'", "method '21' = -2", "method '11' = -2", "method '131' = -3",
            "method '122' = -3", "method 'x.132' = -5", "method '2.1' = 2");
        Script.says("5: the first sign of a 21st CHANGE", "tower '123'", "method '" + TWENTY + "' = 20", "method '" + TWENTY + ".x' = -41",
            "method '" + TWENTY + ".1' = -41", "method '" + TWENTY + ".y' = -41", "method '" + TWENTY + ".' = -41",
            "method '" + "1.".repeat(10) + "12.".repeat(10) + "x' = -51", "method '" + TWENTY + ".x".repeat(20) + "' = -41",
            "method '" + "1.".repeat(20) + "12.3' = -41", "count 1 = 20");
    }

    private static void rule() {
        Script.says("6: THE TEXT is THE RULE (an empty one: none): 0", "tower '246'", "rule '7' = 0", "ringer 2 6 = 7", "rule '' = 0",
            "ringer 2 6 = 4");
        Script.says("6: -1 - p: as method(): the sign at p can't stand there", "tower '246'", "rule '7'", "rule '+' = -1", "rule 'a' = -1",
            "rule 'W' = -1", "rule 'wt' = -2", "rule 'w t' = -2", "rule '1w' = -2", "rule 'w1' = -2", "rule '(w))' = -4", "rule '()' = -2",
            "rule ')' = -1", "rule 'w(' = -2", "rule 'w+*t' = -3", "rule 'w--+t' = -4", "rule '<1' = -1", "rule '1<<2' = -3",
            "rule 'w+/t' = -3", "rule 'x' = -1", "rule '(w' = -3", "rule '/' = -1", "rule ':' = -1", "ringer 2 6 = 7");
        Script.says("6: .. as method(): its end, if it ends too early", "tower '246'", "rule 'w+' = -3", "rule 'w*' = -3", "rule '-' = -2",
            "rule '--' = -3", "rule '(' = -2", "rule '(w' = -3", "rule '((w)' = -5", "rule 'w<' = -3", "rule '(w)+' = -5", "rule '1=-' = -4");
        Script.says("6: .. as method() (40 signs): 40, if it has more and the first 40 could .. end", "tower '246'", "rule '7'",
            "rule '" + FORTY + "+1' = -41", "rule '" + FORTY + "3' = -41", "rule '" + FORTY + "z' = -41", "rule '" + FORTY + ")' = -41",
            "ringer 2 6 = 7", "rule '" + FORTY + "' = 0", "ringer 2 6 = 31");
        Script.says("6: .. as method() (40 signs): 40, if it has more and the first 40 could go on", "tower '246'",
            "rule '" + "1+".repeat(20) + "1' = -41", "rule '" + "-".repeat(40) + "1' = -41", "rule '" + "1+".repeat(20) + "' = -41",
            "rule '" + "1+".repeat(19) + "(1)' = -41", "rule '" + "1+".repeat(20) + "+' = -41", "rule '" + "-".repeat(80) + "' = -41");
        Script.says("6: .. at a sign of the first 40 that can't stand, if there is one", "tower '246'", "rule '+" + FORTY + "' = -1",
            "rule '" + "1+".repeat(19) + "++1' = -39", "rule '" + "1+".repeat(19) + "1)1' = -40");
        Script.says("6: .. a comparison behind another: at it", "tower '246'", "rule '1<2>1' = -4", "rule '1=2=1' = -4", "rule '(1<2<3)' = -5",
            "rule '1<(2>1)' = 0", "rule '(1<2)+(3=3)' = 0");
        Script.says("6: .. a fourth digit: at it", "tower '246'", "rule '999' = 0", "rule '1000' = -4", "rule '0000' = -4",
            "rule '1+2345' = -6");
        Script.says("6: .. a fifth ( in one another: at it", "tower '246'", "rule '((((1))))' = 0", "rule '(((((1)))))' = -5",
            "rule '1+(((((' = -7", "rule '(((((' = -5", "rule '((((-(' = -6");
    }

    private static void ringerAndBell() {
        Script.says("7: 3: DRIFTS, 2: SLEPT, 1: TIRED, 0: WEIGHT", "tower '246'", "sheet 2 3 99 0", "round 1 = 0 : 1 6", "ringer 0 0 = 2",
            "ringer 0 1 = 90", "ringer 0 2 = 1", "ringer 0 3 = 0", "ringer 2 0 = 6", "ringer 2 1 = 99", "ringer 2 2 = 0", "ringer 2 3 = 1");
        Script.says("7: 4: the PLACE of its BELL", "tower '1234567'", "ringer 0 4 = 0", "ringer 6 4 = 6", "round 0", "ringer 0 4 = 1",
            "ringer 1 4 = 0", "ringer 6 4 = 6");
        Script.says("7: 5: 1 if it missed in the ROUND ahead", "tower '246'", "ringer 0 5 = 0", "round 5 = 1", "ringer 0 5 = 1",
            "ringer 1 5 = 0", "ringer 2 5 = 1", "round 2", "ringer 0 5 = 0", "ringer 1 5 = 1");
        Script.says("7: 6: how much more TIRED it would be by THE RULE in the next ROUND, if none misses", "tower '246'", "rule 'm*50+r+3'",
            "ringer 0 6 = 3", "round 7", "ringer 0 6 = 4");
        Script.says("7: 6: .. (as it is)", "tower '246'", "rule 't-89'", "sheet 2 3 99 0", "ringer 0 6 = 10", "rule '50'", "ringer 0 6 = 50",
            "rule '0-5'", "ringer 0 6 = 0", "rule '999'", "ringer 0 6 = 99");
        Script.says("7: NoSuchElementException: none such", "tower '246'", "ringer 2 0 = 6", "ringer 3 0 = throws", "ringer -1 0 = throws",
            "ringer 7 0 = throws", "ringer -2147483648 0 = throws", "ringer 2147483647 6 = throws");
        Script.says("7: NoSuchElementException: another what", "tower '246'", "ringer 0 6 = 2", "ringer 0 7 = throws", "ringer 0 -1 = throws",
            "ringer 0 2147483647 = throws");
        Script.says("8: Which BELL is in a PLACE", "tower '1234567'", "bell 0 = 0", "bell 6 = 6", "round 0", "bell 0 = 1", "bell 5 = 4",
            "bell 6 = 6");
        Script.says("8: NoSuchElementException: none such", "bell 0 = throws", "tower '246'", "bell 3 = throws", "bell -1 = throws",
            "bell 2147483647 = throws", "bell 2 = 2");
    }

    private static void set() {
        Script.says("9: MOST (what 0; 1 .. 3) becomes v: what it was", "set 0 1 = 1", "set 0 3 = 1", "count 9 = 3", "set 0 2 = 3",
            "set 0 1 = 2", "count 9 = 1", "count 10 = 9");
        Script.says("9: REST (1; 1 .. 99) becomes v: what it was", "set 1 1 = 9", "count 10 = 1", "set 1 99 = 1", "count 10 = 99",
            "set 1 50 = 99", "count 9 = 1");
        Script.says("9: Refused: others", "set 0 0 = -1", "set 0 4 = -1", "set 0 -1 = -1", "set 1 0 = -1", "set 1 100 = -1", "set 1 -1 = -1",
            "set 2 1 = -1", "set -1 1 = -1", "count 9 = 1", "count 10 = 9");
    }

    private static void sheet() {
        Script.says("10: n entries f, f + step, ..", "tower '2468'", "sheet 2 4 7 3 = 46", "ringer 0 1 = 7", "ringer 3 1 = 16",
            "sheet 2 3 50 -20 = 90", "ringer 2 1 = 10", "sheet 2 4 5 0 = 20");
        Script.says("10: bytes (kind 0) .. the lowest bits, with their sign", "tower '2468'", "sheet 0 2 127 1 = 99", "ringer 0 1 = 99",
            "ringer 1 1 = 0", "sheet 0 4 254 1 = 1", "ringer 0 1 = 0", "ringer 1 1 = 0", "ringer 2 1 = 0", "ringer 3 1 = 1",
            "sheet 0 1 -255 0 = 1");
        Script.says("10: shorts (1) .. the lowest bits, with their sign", "tower '2468'", "sheet 1 2 32767 1 = 99", "ringer 0 1 = 99",
            "ringer 1 1 = 0", "sheet 1 4 65534 1 = 1", "ringer 2 1 = 0", "ringer 3 1 = 1", "sheet 1 1 256 0 = 99", "sheet 1 1 -65531 0 = 5");
        Script.says("10: ints (2)", "tower '2468'", "sheet 2 2 2147483647 1 = 99", "ringer 0 1 = 99", "ringer 1 1 = 0",
            "sheet 2 1 65536 0 = 99", "sheet 2 1 -65531 0 = 0");
        Script.says("10: put to 0 .. 99", "tower '2468'", "sheet 2 4 98 1 = 395", "ringer 0 1 = 98", "ringer 1 1 = 99", "ringer 2 1 = 99",
            "sheet 2 4 -1 1 = 3", "ringer 0 1 = 0", "ringer 1 1 = 0", "ringer 2 1 = 1");
        Script.says("10: those behind it have 0", "tower '2468'", "sheet 2 4 50 0 = 200", "sheet 2 1 50 0 = 50", "ringer 0 1 = 50",
            "ringer 1 1 = 0", "ringer 3 1 = 0", "sheet 2 0 50 0 = 0", "count 6 = 0");
        Script.says("10: the sum of all that there are (entries beyond them are left aside)", "sheet 2 7 50 0 = 0", "tower '246'",
            "sheet 2 7 50 0 = 150", "count 6 = 150", "tower '1234567'", "count 6 = 0", "sheet 2 7 50 0 = 350");
    }

    private static void sheetRefused() {
        Script.says("10: -2: n below 0 (of kinds 0 .. 2; nothing changes)", "tower '246'", "sheet 2 3 50 0", "sheet 0 -1 1 1 = -2",
            "sheet 1 -1 1 1 = -2", "sheet 2 -1 1 1 = -2", "sheet 2 -2147483648 1 1 = -2", "count 6 = 150");
        Script.says("10: -3: missing (all 0)", "tower '246'", "sheet 2 3 50 0", "sheet 3 0 9 9 = -3", "count 6 = 0", "sheet 2 3 50 0",
            "sheet 3 -1 9 9 = -3", "count 6 = 0", "sheet 2 3 50 0", "sheet 3 7 9 9 = -3", "count 6 = 0");
        Script.says("10: NONE: another kind", "tower '246'", "sheet 2 3 50 0", "sheet 4 3 1 1 = -1", "sheet -1 3 1 1 = -1", "count 6 = 150");
        Script.says("10: NONE: n above 7", "tower '246'", "sheet 2 3 50 0", "sheet 0 8 1 1 = -1", "sheet 1 8 1 1 = -1", "sheet 2 8 1 1 = -1",
            "sheet 2 2147483647 1 1 = -1", "count 6 = 150", "sheet 2 7 1 0 = 3");
        Script.says("10: (these first)", "tower '246'", "sheet 2 3 50 0", "sheet 4 -1 1 1 = -1", "sheet -1 -1 1 1 = -1", "sheet 3 8 1 1 = -1",
            "sheet 4 8 1 1 = -1", "count 6 = 150");
    }

    private static void round() {
        Script.says("11: 0 if they were LAWFUL", "tower '246'", "round 0 = 0 : 0 0", "round 4 = 0 : 4 0", "round 1 = 0 : 1 0");
        Script.says("11: else the first of (1) .. (5) that was not so", "tower '11119'", "round 19 = 1", "round 0 = 0",
            "set 0 2", "round 1 = 0", "round 3 = 2", "round 24 = 3", "round 4 = 4", "round 0 = 0", "round 16 = 5", "count 2 = 8",
            "count 3 = 5");
        Script.says("11: the ROW: PLACES that were missed (bits), who DRIFTED (bits)", "tower '246'", "round 1 : 1 0", "round 1 : 2 0",
            "sheet 2 3 99 0", "round 6 : 6 1", "round 7 : 7 0");
        Script.says("11: -2: no BELLS", "round 0 = -2", "round 1 = -2", "round -1 = -2");
        Script.says("11: NONE: bits of none such", "tower '246'", "round 8 = -1", "round 9 = -1", "round -1 = -1", "round -2147483648 = -1",
            "round 7 = 1");
    }

    private static void rounds() {
        Script.says("12: n ROUNDS (0 .. 60)", "tower '246'", "rounds 0 = 0 : 0 0", "rounds 60 = 74 : 7 60", "rounds 61 = -1", "rounds -1 = -1",
            "rounds 2147483647 = -1", "count 2 = 60");
        Script.says("12: how often somebody DRIFTED; the ROW: who did (bits), NOW", "tower '246'", "rule '99*(r=i)'", "sheet 2 3 1 0",
            "rounds 3 = 3 : 7 3", "rounds 1 = 0 : 0 4");
        Script.says("12: .. in these", "tower '246'", "sheet 2 3 99 0", "rounds 2 = 6 : 7 2", "sheet 2 3 0 0", "rounds 2 = 0 : 0 4");
        Script.says("12: -2: no BELLS", "rounds 0 = -2", "rounds 60 = -2", "rounds 61 = -2");
    }

    private static void beer() {
        Script.says("13: it is 10 less TIRED (0 at least): TIRED then", "tower '246'", "sheet 2 3 9 1", "beer 0 = 0", "beer 1 = 0", "beer 2 = 1",
            "beer 2 = 0", "beer 2 = 0", "sheet 2 1 99 0", "beer 0 = 89", "ringer 0 1 = 89", "count 2 = 0");
        Script.says("13: Refused: none such", "beer 0 = -1", "tower '246'", "beer 3 = -1", "beer -1 = -1", "beer 2147483647 = -1", "beer 2 = 0");
    }

    private static void night() {
        Script.says("14: (an empty one: no ACTS)", "night '' = 0 : 0 0 0", "tower '246'", "night '' = 0 : 0 0 0", "count 2 = 0",
            "undo = -1");
        Script.says("14: - (a ROUND in which nobody misses)", "tower '246'", "night '-' = 1 : 0 0 0", "count 2 = 1", "missed 1 = 0");
        Script.says("14: 1 to 7 unlike letters (a ROUND in which these do)", "tower '1111111'", "night 'a' = 1 : 0 0 0", "missed 1 = 1",
            "night 'gfedcba' = 1 : 0 1 0", "missed 1 = 127", "count 2 = 2", "night 'abcdefga' = -8", "night 'aa' = -2");
        Script.says("14: r and a number (1 or 2 digits; rounds())", "tower '246'", "rule '0'", "night 'r0' = 1 : 0 0 0", "count 2 = 0",
            "night 'r7' = 1", "count 2 = 7", "night 'r03' = 1", "count 2 = 10", "night 'r60' = 1", "count 2 = 70", "night 'r' = -2",
            "night 'r060' = -4");
        Script.says("14: ! and a letter (beer())", "tower '246'", "sheet 2 3 15 0", "night '!c' = 1 : 0 0 0", "ringer 2 1 = 5",
            "ringer 1 1 = 15", "count 2 = 0", "night '!c;!c' = 2", "ringer 2 1 = 0", "night '!' = -2", "night '!1' = -2");
        Script.says("14: ACTS with ; between .. how many were done", "tower '246'", "night '-;-' = 2", "count 2 = 2",
            "night '-" + ";-".repeat(29) + "' = 30", "count 2 = 32");
        Script.says("14: the ROW: .. DEATHS in these, DRIFTS in these", "tower '246'", "round 7 = 1", "sheet 2 3 99 0", "round 0 : 0 7",
            "night 'ab;-' = 2 : 0 1 2", "night '-' = 1 : 0 0 1");
    }

    private static void nightTillOneCannot() {
        Script.says("14: till one can't be (a RINGER that is not there)", "tower '246'", "night 'a;d;-' = 1 : 1 0 0", "count 2 = 1",
            "night '-;ad;-' = 1 : 1 0 0", "count 2 = 2", "night 'g' = 0 : 1 0 0", "night '!d;-' = 0 : 1 0 0", "night '!c;!g' = 1 : 1 0 0",
            "count 2 = 2");
        Script.says("14: till one can't be (.. no BELLS)", "night '-;-' = 0 : 1 0 0", "night 'r1' = 0 : 1 0 0", "night 'r0' = 0 : 1 0 0",
            "night '!a' = 0 : 1 0 0", "night 'a' = 0 : 1 0 0", "night 'r61' = 0 : 1 0 0", "count 2 = 0", "undo = -1");
        Script.says("14: till one can't be (.. a number above 60)", "tower '246'", "night 'r60;r61;-' = 1 : 1 0 74", "count 2 = 60",
            "night 'r99' = 0 : 1 0 0", "night 'r61;-' = 0 : 1 0 0", "count 2 = 60", "count 11 = 1");
        Script.says("14: the ROW: 1 if one could not be, else 0", "tower '246'", "night '-;d' = 1 : 1 0 0", "night '-;c' = 2 : 0 0 0");
    }

    private static void nightSigns() {
        Script.says("14: -1 - p: the sign at p can't stand there", "tower '246'", "night 'x' = -1", "night 'h' = -1", "night 'A' = -1",
            "night '`' = -1", "night 'a-' = -2", "night '-a' = -2", "night '--' = -2", "night 'a!b' = -2", "night 'a;;b' = -3",
            "night ';' = -1", "night 'r1a' = -3", "night 'r123' = -4", "night '!ab' = -3", "night '!h' = -2", "night 'ra' = -2",
            "night 'r:' = -2", "night 'r/' = -2", "night '- ' = -2", "count 2 = 0");
        Script.says("14: (as method(); its end, if it ends too early", "tower '246'", "night 'r' = -2", "night '!' = -2", "night 'a;' = -3",
            "night '-;r1;' = -6", "night 'a;!' = -4");
        Script.says("14: (as method(); 60, if it has more and the first 60 could .. end", "tower '246'", "night '" + LONG_NIGHT + ";' = -61",
            "night '" + LONG_NIGHT + "?' = -61", "night '" + LONG_NIGHT + ";-' = -61", "night '" + "-;".repeat(29) + "r12' = -61",
            "count 2 = 0", "night '" + LONG_NIGHT + "' = 20", "count 2 = 20");
        Script.says("14: (as method(); 60, if it has more and the first 60 could go on", "tower '246'", "night '" + "a;".repeat(30) + "a' = -61",
            "night '" + "a;".repeat(30) + "' = -61", "night '" + "a;".repeat(40) + "' = -61",
            "night '" + "ab;".repeat(19) + "a;rx' = -61", "night '" + "ab;".repeat(19) + "a;!h' = -61");
        Script.says("14: .. at a sign of the first 60 that can't stand, if there is one", "tower '246'", "night ';" + LONG_NIGHT + "' = -1",
            "night '" + "ab;".repeat(19) + "a;;b;c' = -60", "night '" + "ab;".repeat(19) + "aa;c' = -59");
        Script.says("14: a letter told already in that ROUND: at it", "tower '1234567'", "night 'aa' = -2", "night 'aba' = -3",
            "night 'abcb' = -4", "night 'ab;bab' = -6", "night 'abcdefga' = -8", "night 'a;a' = 2");
        Script.says("14: nothing is done then", "tower '246'", "night 'a;-;r5;?' = -8", "night '-;-;' = -5", "count 2 = 0", "undo = -1");
    }

    private static void undo() {
        String[] thirteen = new String[28];
        thirteen[0] = "tower '246'";
        for (int i = 0; i < 13; i++) {
            thirteen[1 + i] = "round " + i % 3;
            thirteen[14 + i] = "undo = " + (i < 12 ? 11 - i : -1);
        }
        thirteen[27] = "count 2 = 1";
        Script.says("15: (of 12 that are kept, the latest ones ..)", thirteen);
        Script.says("15: .. such as were done", "tower '246'", "round 8", "rounds 61", "rounds -1", "beer 3", "night 'd;-' = 0", "night '?'",
            "night ''", "undo", "sheet 2 3 5 0", "set 0 2", "keep 0", "count 11 = 0", "undo = -1");
        Script.says("15: rounds() of 1 and more", "tower '246'", "rounds 0", "count 11 = 0", "rounds 1", "count 11 = 1", "rounds 60",
            "count 11 = 2", "rounds 0", "undo = 1", "count 2 = 1", "undo = 0", "count 2 = 0", "undo = -1");
        Script.says("15: night() of which one ACT was done, as one", "tower '246'", "night '-;a;-' = 3", "count 11 = 1", "night '!a;d' = 1",
            "count 11 = 2", "undo = 1", "count 2 = 3", "undo = 0", "count 2 = 0", "missed 1 = -2");
        Script.says("15: The latest round(), .. beer(), ..", "tower '246'", "sheet 2 3 15 0", "beer 0 = 5", "round 2", "count 11 = 2",
            "undo = 1", "ringer 0 1 = 5", "undo = 0", "ringer 0 1 = 15");
        Script.says("15: how many are left that can be", "tower '246'", "round 1", "round 2", "round 0", "undo = 2", "count 11 = 2", "undo = 1",
            "round 0", "count 11 = 2");
        Script.says("15: Refused: none", "undo = -1", "tower '246'", "undo = -1", "beer 0", "undo = 0", "undo = -1", "undo = -1");
    }

    private static void undone() {
        String[] parts = {"THE ORDER", "bell 0 = 1", "NOW", "count 2 = 1", "DEATHS", "count 3 = 0", "of RINGERS TIRED", "ringer 2 1 = 99",
            "of RINGERS SLEPT", "ringer 0 2 = 1", "of RINGERS DRIFTS", "ringer 2 3 = 0", "who missed", "ringer 0 5 = 1",
            "where", "count 8 = 1", "what was missed", "missed 1 = 1"};
        for (int i = 0; i < parts.length; i += 2) {
            Script.says("15: " + parts[i] + " .. as ahead of it, behind round()", "tower '246'", "round 1", "sheet 2 3 99 0",
                "round 3 = 1 : 3 4", "undo = 1", parts[i + 1]);
            Script.says("15: " + parts[i] + " .. as ahead of it, behind rounds()", "tower '246'", "round 1", "sheet 2 3 99 0", "rounds 60",
                "undo = 1", parts[i + 1]);
            Script.says("15: " + parts[i] + " .. as ahead of it, behind night()", "tower '246'", "round 1", "sheet 2 3 99 0",
                "night 'ab;-;r7;!c' = 4", "undo = 1", parts[i + 1]);
        }
        Script.says("15: what was missed, all of it", "tower '246'", "round 1", "rounds 19", "rounds 60", "missed 20 = 0", "undo = 2",
            "missed 20 = 1", "missed 21 = -2", "undo = 1", "missed 1 = 1", "missed 2 = -2");
    }

    private static void forgotten() {
        Script.says("15: (tower() .. forgets them", "tower '246'", "round 1", "tower '246'", "count 11 = 0", "undo = -1");
        Script.says("15: (method() .. forgets them", "tower '246'", "round 1", "method 'x'", "count 11 = 0", "undo = -1", "round 1", "method ''",
            "undo = -1", "count 2 = 2");
        Script.says("15: (again() forgets them", "tower '246'", "keep 1", "round 1", "again 1 = true", "count 11 = 0", "undo = -1");
        Script.says("15: .. if they are not refused.)", "tower '246'", "round 1", "tower '12' = -3", "method 'y' = -1", "again 0 = false",
            "keep 0", "again 1 = false", "again 2 = false", "again -1 = false", "count 11 = 1", "undo = 0", "count 2 = 0");
    }
}
