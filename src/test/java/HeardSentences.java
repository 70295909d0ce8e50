/** The sentences of promises 30 to 43 that name a boundary case, each with a test of its own. */
public final class HeardSentences {
    private HeardSentences() {
    }

    public static void main(String[] args) {
        missed();
        heard();
        reads();
        readsSigns();
        said();
        says();
        saysRefused();
        fails();
        lasts();
        stout();
        weariest();
        coughs();
        draws();
        keep();
        again();
        count();
        countOfMany();
        row();
        Script.close("HeardSentences");
    }

    private static void missed() {
        Script.says("30: the k-th ROUND ahead of now (1: the latest)", "tower '246'", "round 1", "round 6", "round 0", "missed 1 = 0",
            "missed 2 = 6", "missed 3 = 1");
        Script.says("30: -2: it is not known any more (the latest 20 are)", "tower '246'", "round 1", "rounds 19", "missed 20 = 1",
            "missed 21 = -2", "round 2", "missed 20 = 0", "missed 21 = -2", "missed 1 = 2", "missed 2147483647 = -2");
        Script.says("30: -2: .. or there was none", "missed 1 = -2", "tower '246'", "missed 1 = -2", "round 2", "missed 1 = 2",
            "missed 2 = -2", "undo", "missed 1 = -2");
        Script.says("30: NONE: k below 1", "missed 0 = -1", "tower '246'", "round 1", "missed 0 = -1", "missed -1 = -1",
            "missed -2147483648 = -1");
    }

    private static void heard() {
        String change = "123.x." + "123.".repeat(9) + "x.x";
        Script.says("31: In n ROUNDS (0 .. 60) from now", "tower '246'", "method 'x.1'", "heard 0 0 = 0", "heard 0 3 = 2", "heard 2 60 = 2",
            "heard 0 59 = 0", "heard 0 61 = -1", "heard 0 -1 = -1", "heard 0 2147483647 = -1");
        Script.says("31: the ROW: whose BELLS .. in one of n, n + 1, .., n + 9 ROUNDS (bits)", "tower '111'", "method '" + change + "'",
            "round 0", "heard 0 0 = 0 : 3", "heard 0 1 = 1 : 2", "heard 0 2 = 1 : 3", "heard 2 60 = 2 : 4");
        Script.says("31: NONE: others", "heard 0 0 = -1", "tower '246'", "heard 3 0 = -1", "heard -1 0 = -1", "heard 2 0 = 2 : 4");
    }

    private static void reads() {
        Script.says("32: - (all sounded)", "tower '246'", "method 'x.1'", "reads '-' = 1 : -1", "reads '-1' = 2 : -1 1");
        Script.says("32: or a digit (1 ..; nothing in that PLACE, less 1)", "tower '246'", "method 'x.1'", "reads '1' = 1 : 0",
            "reads '2' = 1 : 1", "reads '3' = 0 : 2", "reads '-3' = 2 : -1 2", "reads '--1' = 3 : -1 -1 1");
        Script.says("32: ROUND by ROUND (1 to 14 signs)", "tower '246'", "reads '" + "-".repeat(14) + "' = 14 : " + "-1 ".repeat(14),
            "reads '" + "-".repeat(15) + "' = -15", "reads '' = -1");
        Script.says("32: how many .. are LAWFUL from the first on, till one is not", "tower '246'", "method 'x.1'", "reads '3---' = 0",
            "reads '11--' = 1", "reads '-23-' = 2", "round 1", "reads '1' = 0", "reads '2' = 0", "reads '3' = 1");
        Script.says("32: the ROW: who missed in each (NONE: nobody), all ROUNDS", "tower '246'", "method 'x.1'",
            "reads '3--2' = 0 : 2 -1 -1 1", "reads '11-' = 1 : 0 1 -1", "rounds 7", "reads '1-' = 2 : 1 -1");
        Script.says("32: .. from now on", "tower '246'", "method '123'", "rounds 3", "reads '3--33' = 4 : 2 -1 -1 2 2",
            "reads '----3' = 4 : -1 -1 -1 -1 2");
    }

    private static void readsSigns() {
        Script.says("32: -1 - p: the sign at p can't stand there", "tower '246'", "reads 'x' = -1", "reads '1x' = -2", "reads '--1 ' = -4",
            "reads '1.2' = -2");
        Script.says("32: (its end for none", "tower '246'", "reads '' = -1");
        Script.says("32: a digit of no PLACE", "tower '246'", "reads '4' = -1", "reads '0' = -1", "reads '-9' = -2", "reads '124' = -3",
            "tower '1111111'", "reads '7' = 0 : 6", "reads '8' = -1");
        Script.says("32: a 15th sign: at it)", "tower '246'", "reads '" + "-".repeat(14) + "1' = -15", "reads '" + "-".repeat(14) + "x' = -15",
            "reads '" + "-".repeat(20) + "' = -15", "reads '" + "-".repeat(13) + "x-' = -14");
        Script.says("32: -100: no BELLS (asked first)", "reads '' = -100", "reads '1' = -100", "reads '?' = -100",
            "reads '" + "-".repeat(15) + "' = -100");
    }

    private static void said() {
        Script.says("33: gaps of the latest k ROUNDS (1 .. 9)", "tower '246'", "round 2", "rounds 8", "said 1 = 0 : 0", "said 8 = 0 : 0",
            "said 9 = 131072 : 1", "said 10 = -1", "said 0 = -1");
        Script.says("33: in base BELLS and 1, the earliest first", "tower '246'", "round 1", "round 4", "said 1 = 3", "said 2 = 7",
            "round 2", "said 3 = 30 : 3", "tower '1234567'", "round 1", "round 64", "said 2 = 15 : 2");
        Script.says("33: 0 if nobody missed, else the number of the least RINGER that did and 1", "tower '246'", "round 0", "said 1 = 0 : 0",
            "round 6", "said 1 = 2 : 1", "round 7", "said 1 = 1 : 1", "said 3 = 9 : 2");
        String[] greatest = {"tower '1234567'", "round 64", "round 64", "round 64", "round 64", "round 64", "round 64", "round 64", "round 64",
            "round 64", "said 9 = 134217727 : 9"};
        Script.says("33: .. the greatest", greatest);
        Script.says("33: -2: so many are not known", "tower '246'", "said 1 = -2", "rounds 8", "said 8 = 0", "said 9 = -2", "undo",
            "said 1 = -2");
        Script.says("33: NONE: another k, no BELLS", "said 1 = -1", "said 0 = -1", "tower '246'", "said 0 = -1", "said 10 = -1", "said -1 = -1",
            "said 2147483647 = -1");
    }

    private static void says() {
        Script.says("34: How a number v (0 ..) is said in k ROUNDS (1 .. 9)", "tower '246'", "method 'x.1'", "says 0 1 = 1 : 0",
            "says 1 1 = 1 : 1", "says 7 2 = 1 : 1 4", "says 0 9 = 1 : 0 0 0 0 0 0 0 0 0", "says 1 9 = 1 : 0 0 0 0 0 0 0 0 1",
            "says 65536 9 = 1 : 1 0 0 0 0 0 0 0 0");
        Script.says("34: all LAWFUL: 1 if it can be, else 0", "tower '246'", "method 'x.1'", "says 3 1 = 0", "says 6 2 = 0", "says 5 2 = 0",
            "says 4 2 = 1 : 1 0", "round 1", "says 1 1 = 0", "says 2 1 = 0", "says 3 1 = 1 : 4");
        Script.says("34: .. from now", "tower '246'", "method '123'", "rounds 3", "says 3 4 = 1 : 0 0 0 4", "says 3 5 = 0", "says 12 5 = 1");
        Script.says("34: the ROW: the sets, ROUND by ROUND (1 alone)", "tower '246'", "method 'x.1'", "bound 1 = 3 : 1", "says 6 2 = 0 : 1",
            "says 7 2 = 1 : 1 4", "says 6 2 = 0 : 1 4");
    }

    private static void saysRefused() {
        Script.says("34: -2: it is too great for k", "tower '246'", "says 3 1 = 0", "says 4 1 = -2", "says 15 2 = 0", "says 16 2 = -2",
            "says 262143 9 = 0", "says 262144 9 = -2", "says 2147483647 9 = -2", "tower '1234567'", "says 134217727 9 = 0",
            "says 134217728 9 = -2");
        Script.says("34: NONE: others (v below 0, too), no BELLS", "says 0 1 = -1", "says 4 1 = -1", "tower '246'", "says -1 1 = -1",
            "says -2147483648 9 = -1", "says 0 0 = -1", "says 0 10 = -1", "says 0 -1 = -1", "says 999 0 = -1");
    }

    private static void fails() {
        Script.says("35: In how many ROUNDS (1 .. 200) somebody DRIFTS first, if nobody misses", "tower '246'", "fails = 25 : 4",
            "sheet 2 3 98 -1", "fails = 1 : 7", "sheet 3 0 0 0", "rule '99*(r=199)+(r=0)'", "fails = 200 : 7");
        Script.says("35: the ROW: who (bits)", "tower '246'", "sheet 2 3 96 0", "fails = 1 : 4", "sheet 2 3 95 0", "fails = 2 : 6",
            "sheet 2 1 99 0", "fails = 1 : 1");
        Script.says("35: .. DRIFTS of old don't count", "tower '246'", "sheet 2 3 99 0", "round 0", "rule '0'", "fails = -2");
        Script.says("35: -2: not in these, no BELLS", "fails = -2", "tower '246'", "rule '99*(r=200)+(r=0)'", "fails = -2", "round 0",
            "rounds 2", "fails = 198 : 7");
    }

    private static void lasts() {
        Script.says("36: The same: (1 .. 200)", "tower '246'", "method '123'", "set 1 1", "sheet 2 3 99 0", "rule '99*(r=199)'",
            "lasts = 200 : 5", "rule '99*(r=200)'", "lasts = -2", "rule '99'", "lasts = 1 : 6");
        Script.says("36: of those that may miss alone", "tower '246'", "method '123'", "rule '6*(r=0)'", "sheet 2 3 90 2", "lasts = 1 : 4",
            "sheet 2 3 90 1", "lasts = -2");
        Script.says("36: the one with the greatest TIRED does", "tower '246'", "method '123'", "rule '9*(r=0)'", "sheet 2 2 90 8",
            "lasts = -2", "rule '99*(r=0)'", "lasts = 1 : 1");
        Script.says("36: (of equal ones the first", "tower '246'", "method '123'", "sheet 2 3 97 0", "rule '3*(i=0)*(r=0)'", "lasts = -2",
            "rule '3*(i=1)*(r=0)'", "lasts = 1 : 2");
        Script.says("36: nobody, if none may)", "tower '246'", "method '123'", "rounds 6", "round 3", "sheet 2 3 99 0", "lasts = 1 : 7",
            "rule '9*m*(r=7)'", "lasts = -2");
        Script.says("36: -2: .. no BELLS", "lasts = -2");
    }

    private static void stout() {
        Script.says("37: nobody DRIFTS in n ROUNDS (1 .. 60)", "tower '246'", "stout 24 = 0 : 0 0 0", "stout 25 = -2", "rule '1'",
            "stout 60 = 0 : 0 0 0", "sheet 2 3 99 -1", "stout 1 = 1 : 1 0 0", "stout 2 = 2 : 1 1 0", "sheet 2 3 39 1",
            "stout 60 = 2 : 0 1 1");
        Script.says("37: The least beer .. (10 less TIRED each, 0 at least)", "tower '246'", "sheet 2 3 50 0", "stout 20 = 6 : 0 2 4",
            "rule '95+5*(t=0)'", "sheet 2 3 5 0", "stout 1 = 3 : 1 1 1");
        Script.says("37: by RINGERS: each the least that serves it alone", "tower '246'", "rule '(i=0)*(t<99)*99+(i>0)*(t>80)*50'",
            "sheet 2 3 99 0", "stout 1 = 4 : 0 2 2");
        Script.says("37: .. in none of these ROUNDS", "tower '246'", "rule '98*(r=i)+(r=0)'", "sheet 2 3 1 0", "stout 1 = 1 : 1 0 0",
            "stout 2 = 2 : 1 1 0", "stout 3 = 3 : 1 1 1");
        Script.says("37: -2: some can't be helped (by 10 each)", "tower '246'", "rule '99'", "sheet 2 3 99 0", "stout 1 = 30 : 10 10 10",
            "stout 2 = -2", "rule '99*(i=1)+(i=0)'", "stout 2 = -2", "rule '0'", "stout 2 = 0 : 0 0 0");
        Script.says("37: NONE: others, no BELLS", "stout 1 = -1", "tower '246'", "stout 0 = -1", "stout 61 = -1", "stout -1 = -1",
            "stout 2147483647 = -1", "stout 60 = -2");
    }

    private static void weariest() {
        Script.says("38: the most TIRED in n ROUNDS (0 .. 60), nobody missing", "tower '246'", "weariest 0 = 0 : 0 0", "weariest 1 = 2 : 4 0",
            "weariest 60 = 2 : 99 36", "weariest 61 = -1", "weariest -1 = -1");
        Script.says("38: (DRIFTS 100 each more)", "tower '246'", "rule '(i=2)+9*(i=1)'", "sheet 2 3 99 -1", "weariest 0 = 0 : 99 0",
            "weariest 1 = 1 : 99 1", "rule '(i=2)*3'", "weariest 2 = 2 : 99 2", "weariest 1 = 2 : 99 1");
        Script.says("38: of equal ones the first", "tower '246'", "rule '1'", "sheet 2 3 5 0", "weariest 0 = 0 : 5 0",
            "weariest 60 = 0 : 65 0", "sheet 2 3 98 0", "weariest 3 = 0 : 99 2", "sheet 2 3 5 1", "weariest 3 = 2 : 10 0");
        Script.says("38: the ROW: TIRED, DRIFTS more", "tower '246'", "sheet 2 3 99 0", "rounds 2", "sheet 2 3 50 -10",
            "weariest 0 = 0 : 50 0", "sheet 2 3 99 0", "weariest 1 = 0 : 99 1");
        Script.says("38: .. DRIFTS of old don't count", "tower '246'", "rule '99*(i=1)'", "sheet 2 3 1 0", "rounds 2 = 2 : 2 2",
            "sheet 2 3 60 -10", "weariest 0 = 0 : 60 0", "weariest 1 = 1 : 99 1");
        Script.says("38: NONE: others, no BELLS", "weariest 0 = -1", "weariest 60 = -1", "tower '246'", "weariest 61 = -1", "weariest -1 = -1",
            "weariest 2147483647 = -1");
    }

    private static void coughs() {
        Script.says("39: n ROUNDS (1 .. 60) from now", "tower '1234567'", "coughs 0 1 1 = 0 : 0 0 1", "coughs 0 60 9 = 4 : 87 0 5",
            "coughs 0 0 1 = -1", "coughs 0 61 1 = -1", "coughs 0 -1 1 = -1");
        Script.says("39: a DRAW of BELLS and k (1 .. 9)", "tower '1234567'", "coughs 1 1 9 = 1 : 0 6 1", "coughs 2 1 1 = 0 : 0 4 1",
            "coughs 1 1 0 = -1", "coughs 1 1 10 = -1", "coughs 1 1 -1 = -1");
        Script.says("39: (a number of none: nobody)", "tower '1234567'", "coughs 1 1 3 = 0 : 0 -1 0", "coughs -1 1 3 = 0 : 0 -1 0",
            "tower '246'", "coughs 1 1 1 = 1 : 0 2 1", "coughs 0 1 9 = 0 : 0 0 1");
        Script.says("39: DEATHS in these; the ROW: DRIFTS in these", "tower '246'", "round 7", "round 7", "sheet 2 3 99 0", "rounds 1",
            "coughs 1 1 1 = 0 : 2 2 1", "coughs -1 1 9 = 0 : 2 1 1");
        Script.says("39: who SLEPT the most in these (the first; NONE: nobody), how often", "tower '1234567'", "round 64", "round 64",
            "coughs -1 2 1 = 1 : 0 1 2", "coughs 0 2 1 = 0 : 0 0 1", "coughs 1 1 3 = 0 : 0 -1 0");
        Script.says("39: NONE: others, no BELLS", "coughs 1 1 1 = -1", "tower '246'", "coughs 1 1 1 = 1", "coughs 1 2147483647 1 = -1",
            "coughs 1 1 2147483647 = -1");
    }

    private static void draws() {
        Script.says("39: R = R times 1103515245 + 12345 (as ints; R is seed at first)", "tower '1234567'", "coughs 0 1 9 = 0 : 0 0 1",
            "coughs 1 2 3 = 0 : 0 6 1");
        Script.says("39: (R without sign, by 65536) % n", "tower '1234567'", "coughs 2 1 3 = 1 : 0 6 1", "coughs -1 1 1 = 0 : 0 1 1",
            "coughs -1 1 9 = 0 : 0 -1 0");
    }

    private static void keep() {
        Script.says("40: kept under a number 0 .. 1: true", "tower '246'", "keep 0 = true", "round 1", "keep 1 = true", "round 1",
            "again 0 = true", "count 2 = 0", "again 1 = true", "count 2 = 1", "keep 0 = true", "round 0", "again 0 = true", "count 2 = 1");
        Script.says("40: Refused: others", "tower '246'", "keep 2 = false", "keep -1 = false", "keep 2147483647 = false",
            "keep -2147483648 = false", "again 0 = false", "again 1 = false");
        Script.says("40: .. without BELLS", "keep 0 = true", "again 0 = true", "again 1 = false", "count 0 = 0");
    }

    private static void again() {
        String[] parts = {"THE ORDER", "bell 0 = 1", "NOW", "count 2 = 1", "DEATHS", "count 3 = 0", "of RINGERS TIRED", "ringer 2 1 = 99",
            "of RINGERS SLEPT", "ringer 0 2 = 1", "of RINGERS DRIFTS", "ringer 2 3 = 0", "who missed", "ringer 0 5 = 1",
            "where", "count 8 = 1", "what was missed", "missed 1 = 1"};
        for (int i = 0; i < parts.length; i += 2) {
            Script.says("41: They are as they were kept under a number: " + parts[i], "tower '246'", "round 1", "sheet 2 3 99 0", "keep 1",
                "round 6 = 1 : 5 1", "rounds 8", "keep 0", "again 1 = true", parts[i + 1], "undo = -1", "round 3", "again 1 = true",
                parts[i + 1]);
        }
        Script.says("41: .. what was missed, all of it", "tower '246'", "round 1", "rounds 19", "keep 0", "rounds 60", "missed 20 = 0",
            "again 0", "missed 20 = 1", "missed 21 = -2");
        Script.says("41: .. not MOST, REST, THE RULE", "tower '246'", "keep 0", "set 0 3", "set 1 7", "rule '5'", "again 0 = true",
            "count 9 = 3", "count 10 = 7", "ringer 0 6 = 5");
        Script.says("41: Refused: nothing kept", "again 0 = false", "tower '246'", "round 1", "again 0 = false", "again 1 = false", "keep 1",
            "again 0 = false", "again 2 = false", "again -1 = false", "again 1 = true", "undo = -1");
        Script.says("41: Refused: .. THE METHOD was told since", "tower '246'", "keep 0", "keep 1", "method 'y' = -1", "again 0 = true",
            "method 'x' = 1", "again 0 = false", "again 1 = false", "keep 0", "again 0 = true", "again 1 = false", "method '' = 1",
            "again 0 = false");
        Script.says("41: .. nor THE TOWER, which tells THE METHOD", "tower '246'", "keep 0", "tower '12' = -3", "again 0 = true",
            "tower '246' = 3", "again 0 = false");
    }

    private static void count() {
        Script.says("42: 0: BELLS, 1: CHANGES, 2: NOW, 3: DEATHS", "tower '24681'", "method 'x.1.2'", "round 3", "rounds 4", "count 0 = 5",
            "count 1 = 3", "count 2 = 5", "count 3 = 1");
        Script.says("42: 4: DRIFTS of all, 5: SLEPT of all, 6: TIRED of all", "tower '246'", "sheet 2 3 99 0", "rounds 2", "count 4 = 6",
            "round 3", "count 4 = 7", "count 5 = 2", "count 6 = 279", "round 4", "count 5 = 3");
        Script.says("42: 7: the TENOR (NONE)", "count 7 = -1", "tower '246'", "count 7 = 2", "tower '996'", "count 7 = 1");
        Script.says("42: 8: PLACES missed in the ROUND ahead (bits)", "tower '246'", "count 8 = 0", "round 1", "count 8 = 1", "round 1",
            "count 8 = 2", "rounds 1", "count 8 = 0");
        Script.says("42: 9: MOST, 10: REST", "count 9 = 1", "count 10 = 9", "set 0 2", "set 1 99", "count 9 = 2", "count 10 = 99");
        Script.says("42: 11: what can be undone", "count 11 = 0", "tower '246'", "beer 0", "count 11 = 1", "undo", "count 11 = 0");
        Script.says("42: 12: numbers of the ROW, 13: signs of THE TEXT", "count 12 = 0", "count 13 = 0", "tower '1234567'", "order 0",
            "count 12 = 7", "sleeps 12", "count 12 = 12", "matches 0 1", "count 12 = 7", "reads '" + "-".repeat(14) + "'", "count 12 = 14",
            "text 'abcde'", "count 13 = 5");
        Script.says("42: -100 for another what", "count 14 = -100", "count -1 = -100", "count 2147483647 = -100", "count -2147483648 = -100");
    }

    private static void countOfMany() {
        String[] calls = new String[15];
        calls[0] = "tower '246'";
        for (int i = 1; i <= 13; i++) {
            calls[i] = "round 0";
        }
        calls[14] = "count 11 = 12";
        Script.says("42: 11: .. 12 at most", calls);
    }

    private static void row() {
        Script.says("43: Number i of the ROW", "tower '246'", "order 1", "row 0 = 1", "row 1 = 0", "row 2 = 2");
        Script.says("43: NoSuchElementException: none such", "row 0 = throws", "tower '246'", "row 0 = throws", "order 0", "row 3 = throws",
            "row -1 = throws", "row 2147483647 = throws", "row -2147483648 = throws", "bound 1", "row 0 = 1", "row 1 = throws");
    }
}
