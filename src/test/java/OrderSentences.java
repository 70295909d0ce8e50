/** The sentences of promises 16 to 29 that name a boundary case, each with a test of its own. */
public final class OrderSentences {
    /** The order comes again in the 204th round, no order earlier; 17 changes. */
    private static final String IN_204 = "3.1.3.7.3.x.1.x.1.7.3.1.x.3.x.1.x";
    /** The order comes again in the 200th round, no order earlier; 20 changes. */
    private static final String IN_200 = "x.1.1234.123.x.1.123.3.567.7.147.x.3.1.147.x.3.147.7.147";

    private OrderSentences() {
    }

    public static void main(String[] args) {
        order();
        truth();
        lead();
        leads();
        comes();
        comesSigns();
        course();
        may();
        lawful();
        covers();
        rivals();
        matches();
        sleeps();
        naps();
        napsRefused();
        bound();
        Script.close("OrderSentences");
    }

    private static void order() {
        Script.says("16: in n ROUNDS (0 .. 200)", "tower '111'", "method 'x.1'", "order 0 = 0 : 0 1 2", "order 1 = 1 : 1 0 2",
            "order 199 = 1 : 1 0 2", "order 200 = 1 : 1 2 0");
        Script.says("16: NONE: another n", "tower '111'", "order 201 = -1", "order -1 = -1", "order 2147483647 = -1",
            "order -2147483648 = -1");
        Script.says("16: -2: no BELLS", "order 0 = -2", "order 201 = -2");
        Script.says("16: .. from now on", "tower '111'", "method 'x.1'", "rounds 5", "order 0 = 0 : 0 2 1", "order 1 = 0 : 0 1 2");
    }

    private static void truth() {
        Script.says("17: In how many ROUNDS (1 .. 200)", "tower '1234567'", "method '" + IN_200 + "'", "truth = 200 : 0",
            "method '1234567'", "truth = 1 : 0");
        Script.says("17: an ORDER comes that there was already from now on (now, ..)", "tower '246'", "method 'x.1'", "truth = 6 : 0",
            "rounds 3", "truth = 6 : 0");
        Script.says("17: (.. or behind one of these ROUNDS) first", "tower '246'", "method 'x.123'", "truth = 2 : 1", "method 'x.1.2.123'",
            "truth = 3 : 2", "rounds 3", "truth = 1 : 0");
        Script.says("17: -2: not in these", "tower '1234567'", "method '" + IN_204 + "'", "truth = -2");
        Script.says("17: -2: .. no BELLS", "truth = -2");
    }

    private static void lead() {
        Script.says("18: In how many ROUNDS (1 .. 200)", "tower '1234567'", "method '" + IN_200 + "'", "lead = 200", "rounds 7",
            "lead = 200", "method '1234567'", "lead = 1");
        Script.says("18: THE ORDER as it is now .. at the same CHANGE of THE METHOD", "tower '246'", "method '123.x'", "truth = 1", "lead = 4",
            "method '123.123'", "lead = 2", "rounds 1", "lead = 2");
        Script.says("18: -2: not in these", "tower '1234567'", "method '" + IN_204 + "'", "lead = -2", "rounds 9", "lead = -2");
        Script.says("18: -2: .. no BELLS", "lead = -2");
    }

    private static void leads() {
        Script.says("19: In how many ROUNDS (0 .. 200) a BELL is in a PLACE first", "tower '246'", "method 'x.1'", "leads 0 0 = 0",
            "leads 2 0 = 3", "leads 0 2 = 2", "rounds 3", "leads 2 0 = 0", "leads 0 0 = 2");
        Script.says("19: how often in the next 200 (now counted; ..)", "tower '246'", "method 'x.1'", "leads 0 0 = 0 : 67",
            "tower '1234'", "method '1234'", "leads 1 1 = 0 : 200");
        Script.says("19: (.. ROUNDS 0 .. 199)", "tower '246'", "method 'x.1'", "leads 1 0 = 1 : 67", "leads 2 0 = 3 : 66",
            "leads 0 2 = 2 : 66", "tower '1234'", "leads 0 0 = 0 : 100", "leads 1 0 = 1 : 100");
        Script.says("19: -2: not in these", "tower '1234'", "method '1234'", "leads 1 0 = -2", "method '1'", "leads 1 0 = -2",
            "leads 0 0 = 0 : 200");
        Script.says("19: NONE: none such", "leads 0 0 = -1", "tower '246'", "leads 3 0 = -1", "leads 0 3 = -1", "leads -1 0 = -1",
            "leads 0 -1 = -1", "leads 7 7 = -1", "leads 2147483647 0 = -1", "leads 2 2 = 0");
    }

    private static void comes() {
        Script.says("20: in how many ROUNDS (0 .. 200) it comes first", "tower '1234567'", "method '" + IN_204 + "'",
            "comes 'abcdefg' = 0 : 7", "comes 'bdfgaec' = 200 : 0", "comes 'dbfagce' = -2", "rounds 1", "comes 'bdfgaec' = 199",
            "comes 'dbfagce' = 200");
        Script.says("20: (as many unlike letters as BELLS, PLACE 0 first)", "tower '246'", "method 'x.1'", "comes 'bca' = 2",
            "comes 'cab' = 4", "comes 'acb' = 5", "tower '1111111'", "comes 'badcfeg' = 1");
        Script.says("20: the ROW: how many PLACES are now as in it", "tower '246'", "method 'x.1'", "comes 'abc' = 0 : 3",
            "comes 'cba' = 3 : 1", "comes 'bca' = 2 : 0", "rounds 2", "comes 'cba' = 1 : 1", "comes 'abc' = 4 : 0", "comes 'acb' = 3 : 1");
        Script.says("20: -2: not in these", "tower '246'", "comes 'cba' = -2", "comes 'bac' = 1 : 1");
    }

    private static void comesSigns() {
        Script.says("20: -1 - p: the sign at p can't stand there", "tower '246'", "comes '?' = -1", "comes 'a?' = -2", "comes 'ab?' = -3",
            "comes 'ABC' = -1", "comes ' abc' = -1");
        Script.says("20: (its end, if it ends too early", "tower '246'", "comes '' = -1", "comes 'a' = -2", "comes 'ab' = -3",
            "tower '1111111'", "comes 'gfedcb' = -7");
        Script.says("20: a letter of no BELL", "tower '246'", "comes 'abd' = -3", "comes 'dab' = -1", "comes 'a`b' = -2",
            "tower '1111111'", "comes 'abcdefh' = -7");
        Script.says("20: or told already", "tower '246'", "comes 'aab' = -2", "comes 'aba' = -3", "comes 'abb' = -3", "comes 'cbc' = -3");
        Script.says("20: a sign too many: at it)", "tower '246'", "comes 'abcd' = -4", "comes 'abca' = -4", "comes 'abc.' = -4",
            "comes 'abcabc' = -4", "tower '1111111'", "comes 'abcdefga' = -8");
        Script.says("20: -100: no BELLS (asked first)", "comes 'abc' = -100", "comes '' = -100", "comes '?' = -100", "count 13 = 0");
    }

    private static void course() {
        Script.says("21: in neighbouring PLACES in ROUNDS 0 .. n - 1 from now (n 1 .. 200)", "tower '246'", "method 'x.1'",
            "course 0 1 1 = 1 : 0", "course 0 2 1 = 0 : -1", "course 0 2 2 = 1 : 1", "course 0 1 200 = 134 : 0",
            "course 0 2 200 = 133 : 1", "course 0 1 199 = 133 : 0");
        Script.says("21: .. either of two ahead", "tower '246'", "method 'x.1'", "course 0 2 6 = 4 : 1", "course 2 0 6 = 4 : 1",
            "course 1 0 6 = 4 : 0");
        Script.says("21: the ROW: the first such (NONE)", "tower '1234'", "method '1234'", "course 0 2 200 = 0 : -1",
            "course 0 3 200 = 0 : -1", "course 0 1 200 = 200 : 0");
        Script.says("21: NONE: others", "course 0 1 1 = -1", "tower '246'", "course 0 1 0 = -1", "course 0 1 201 = -1", "course 0 1 -1 = -1",
            "course 0 0 1 = -1", "course 2 2 1 = -1", "course 3 0 1 = -1", "course 0 3 1 = -1", "course -1 0 1 = -1", "course 0 -1 1 = -1");
    }

    private static void may() {
        Script.says("22: 0, or the first of (1) .. (5) that would not be so", "tower '11119'", "round 1", "may 0 = 0", "may 3 = 1",
            "set 0 2", "may 3 = 2", "may 6 = 4", "may 10 = 4", "may 9 = 2", "may 12 = 3", "may 18 = 4", "may 24 = 0", "rounds 6",
            "may 16 = 5", "may 20 = 3", "may 28 = 1", "may 17 = 5");
        Script.says("22: -2: no BELLS", "may 0 = -2", "may 1 = -2", "may -1 = -2");
        Script.says("22: NONE: bits of none such", "tower '246'", "may 8 = -1", "may 9 = -1", "may -1 = -1", "may -2147483648 = -1",
            "may 7 = 1", "may 0 = 0");
    }

    private static void lawful() {
        Script.says("23: How many sets (also nobody) are LAWFUL", "tower '246'", "method '123'", "lawful = 3 : 0 3", "rounds 6", "round 3",
            "lawful = 1 : 0 0");
        Script.says("23: the one with the greatest TIRED in all", "tower '11119'", "set 0 2", "sheet 2 5 0 10", "lawful = 8 : 10 15",
            "sheet 2 5 40 -10", "lawful = 8 : 5 15");
        Script.says("23: (of as good ones the least bits)", "tower '11119'", "set 0 2", "lawful = 8 : 0 15", "sheet 2 5 30 0",
            "lawful = 8 : 5 15", "sheet 2 5 -20 10", "lawful = 8 : 8 15");
        Script.says("23: RINGERS (bits) that are in some", "tower '11119'", "round 1", "lawful = 4 : 16 28");
        Script.says("23: -2: no BELLS", "lawful = -2");
    }

    private static void covers() {
        Script.says("24: RINGERS (bits) that can miss .. together with one, both LAWFUL", "tower '11119'", "set 0 2", "covers 0 = 12 : 2",
            "covers 1 = 8 : 5", "covers 2 = 1 : 10", "covers 3 = 3 : 4");
        Script.says("24: the ROW: those that could alone, but not with it", "tower '11119'", "covers 0 = 0 : 14", "covers 3 = 0 : 7",
            "set 0 2", "method '12345'", "round 1", "covers 1 = 24 : 4", "covers 4 = 6 : 8");
        Script.says("24: -2: that one may not miss alone", "tower '11119'", "covers 4 = -2", "round 1", "covers 0 = -2", "covers 1 = -2",
            "covers 4 = 0 : 12");
        Script.says("24: NONE: none such", "covers 0 = -1", "tower '246'", "covers 3 = -1", "covers -1 = -1", "covers 2147483647 = -1");
    }

    private static void rivals() {
        Script.says("25: in n ROUNDS (1 .. 60)", "tower '24681'", "method '12345'", "rivals 0 1 1 = 1 : 0", "rivals 0 1 60 = 60 : 0",
            "rivals 1 0 59 = 59 : 0");
        Script.says("25: the first in the first, the other in the second, and so on", "tower '24681'", "method '12345'",
            "rivals 0 3 60 = 7 : 5", "rivals 3 0 60 = 0 : 5", "round 1", "rivals 0 1 5 = 0 : 2", "rivals 1 0 5 = 5 : 0");
        Script.says("25: how many .. are LAWFUL from the first on, till one is not", "tower '24681'", "method '12345'",
            "rivals 0 3 7 = 7 : 0", "rivals 0 3 8 = 7 : 5", "rivals 0 3 20 = 7 : 5");
        Script.says("25: .. from now", "tower '24681'", "method '12345'", "rounds 3", "rivals 0 3 60 = 11 : 5", "rivals 3 0 60 = 4 : 5",
            "rivals 0 1 60 = 60 : 0");
        Script.says("25: the ROW: the first of (1) .. (5) that is not so in that (0: all are)", "tower '246'", "rivals 0 1 5 = 1 : 4",
            "rivals 0 1 1 = 1 : 0", "rivals 2 0 5 = 0 : 5", "method '123'", "round 1", "rivals 0 1 5 = 0 : 2", "rivals 1 0 5 = 5 : 0");
        Script.says("25: NONE: others", "rivals 0 1 1 = -1", "tower '246'", "rivals 0 1 0 = -1", "rivals 0 1 61 = -1", "rivals 0 1 -1 = -1",
            "rivals 0 0 1 = -1", "rivals 3 0 1 = -1", "rivals 0 3 1 = -1", "rivals -1 0 1 = -1", "rivals 0 -1 1 = -1");
    }

    private static void matches() {
        Script.says("26: (one is left over, if they are odd ..)", "tower '24681'", "method '12345'", "matches 4 5 = 0 : -1 -1 -1 -1 -1",
            "matches 7 1 = 1 : -1 2 1 -1 -1", "matches 31 1 = 2 : -1 3 4 1 2");
        Script.says("26: .. and none, if they are even", "tower '24681'", "method '12345'", "matches 0 5 = 0 : -1 -1 -1 -1 -1",
            "matches 3 5 = 5 : 1 0 -1 -1 -1", "matches 24 5 = 0 : -1 -1 -1 4 3", "matches 15 1 = 2 : 1 0 3 2 -1");
        Script.says("26: (.. the lesser number begins)", "tower '24681'", "method '12345'", "matches 9 20 = 7 : 3 -1 -1 0 -1",
            "matches 24 20 = 0 : -1 -1 -1 4 3", "tower '1111111'", "method '1234567'", "matches 65 20 = 7 : 6 -1 -1 -1 -1 -1 0");
        Script.says("26: for n ROUNDS (1 .. 60)", "tower '24681'", "method '12345'", "matches 3 1 = 1", "matches 3 60 = 60",
            "matches 3 0 = -1", "matches 3 61 = -1", "matches 3 -1 = -1");
        Script.says("26: each pair .. for itself: the most LAWFUL ROUNDS in all", "tower '24681'", "method '12345'",
            "matches 15 20 = 27 : 1 0 3 2 -1", "matches 31 20 = 40 : 1 0 4 -1 2");
        Script.says("26: of as good ones the least row", "tower '1111111'", "method '1234567'", "matches 63 60 = 180 : 1 0 3 2 5 4 -1",
            "matches 127 60 = 180 : 1 0 3 2 5 4 -1", "matches 7 60 = 60 : -1 2 1 -1 -1 -1 -1",
            "matches 31 60 = 120 : -1 2 1 4 3 -1 -1");
        Script.says("26: NONE: others", "tower '246'", "matches 8 1 = -1", "matches -1 1 = -1", "matches -2147483648 1 = -1",
            "matches 7 1 = 1");
        Script.says("26: .. no BELLS: no bits at all", "matches 1 1 = -1", "matches 0 0 = -1", "matches 0 61 = -1", "matches 0 60 = 0 :");
    }

    private static void sleeps() {
        Script.says("27: in the next n ROUNDS (1 .. 12)", "tower '246'", "method 'x.1'", "sleeps 1 = 1 : 1",
            "sleeps 12 = 11 : 0 2 1 4 2 1 4 1 2 1 4 2", "method 'x'", "sleeps 12 = 11 : 0 1 4 1 4 1 4 1 4 1 4 1");
        Script.says("27: all LAWFUL, at most", "tower '24681'", "method 'x.145'", "set 0 3", "sleeps 5 = 9 : 16 5 18 1 26", "round 0",
            "round 4", "sleeps 4 = 6 : 0 28 0 21");
        Script.says("27: .. behind the ROUND ahead", "tower '2468'", "method '14.x'", "set 0 2", "sleeps 5 = 6 : 5 0 3 0 5", "round 1",
            "sleeps 4 = 4 : 0 3 0 5", "tower '246'", "method '123'", "rounds 6", "round 3", "sleeps 1 = 0 : 0", "sleeps 2 = 2 : 0 5");
        Script.says("27: of as good ones the least row", "tower '246'", "method 'x.1'", "set 0 1", "sleeps 3 = 3 : 1 4 2",
            "sleeps 9 = 8 : 0 2 1 4 2 1 4 1 2");
        Script.says("27: NONE: another n, no BELLS", "sleeps 1 = -1", "sleeps 0 = -1", "tower '246'", "sleeps 0 = -1", "sleeps 13 = -1",
            "sleeps -1 = -1", "sleeps 2147483647 = -1", "sleeps 12 = 11");
    }

    private static void naps() {
        Script.says("28: s times (1 .. 2) or more in the next n ROUNDS (1 .. 12)", "tower '246'", "method 'x.1'", "naps 1 12 = 3 : 1 4 2",
            "naps 2 12 = 6 : 1 4 2 1 4 2", "naps 1 1 = -2", "naps 2 1 = -2");
        Script.says("28: in the fewest ROUNDS", "tower '246'", "naps 1 3 = 3 : 1 4 2", "naps 1 9 = 3 : 1 4 2", "naps 2 7 = 7 : 1 0 1 4 2 4 2",
            "naps 2 12 = 7 : 1 0 1 4 2 4 2", "method 'x.1.123'", "naps 2 12 = 6 : 1 4 2 1 2 4");
        Script.says("28: of as few the least row", "tower '2468'", "method '14.x'", "set 0 2", "naps 1 12 = 4 : 0 1 8 6",
            "naps 2 12 = 6 : 5 0 6 8 2 9", "round 1", "naps 1 12 = 3 : 8 1 6", "naps 2 12 = 7 : 0 3 0 9 4 8 6");
        Script.says("28: all of these LAWFUL", "tower '24681'", "method 'x.145'", "set 0 3", "naps 1 12 = 3 : 1 24 6", "round 0", "round 4",
            "naps 1 12 = 3 : 2 20 9", "naps 2 12 = 7 : 0 3 8 2 28 0 21");
        Script.says("28: .. from any ROUND on", "tower '246'", "method '123'", "round 0", "naps 1 12 = 3 : 1 2 4",
            "naps 2 12 = 6 : 1 2 1 4 2 4", "tower '24681'", "method 'x.1'", "set 0 2", "naps 1 6 = 3 : 17 8 6");
        Script.says("28: .. behind any ROUND ahead", "tower '2468'", "round 1", "naps 1 12 = 4 : 4 1 8 2", "tower '246'", "round 1",
            "naps 1 12 = 4 : 0 1 4 2", "tower '24681'", "set 0 2", "round 5", "naps 1 12 = 4 : 0 5 16 10", "tower '24681'",
            "method 'x.1'", "round 9", "naps 1 12 = 4 : 0 6 16 9", "sleeps 3 = 4 : 16 1 6", "tower '2468'", "round 4",
            "naps 1 12 = 4 : 0 5 0 10", "sleeps 3 = 3 : 1 0 5");
        Script.says("28: .. and ahead of a ROUND in which the TENOR may not", "tower '246'", "method 'x.123.12'", "rounds 6",
            "naps 1 12 = 3 : 4 1 2");
    }

    private static void napsRefused() {
        Script.says("28: -2: they can't", "tower '246'", "naps 1 2 = -2", "naps 1 1 = -2", "naps 2 6 = -2", "method 'x.1'", "naps 2 5 = -2",
            "naps 2 6 = 6", "tower '1234'", "method '1234'", "naps 1 3 = -2", "naps 1 4 = 4");
        Script.says("28: -3: more than 5 BELLS", "tower '111111'", "naps 1 1 = -3", "naps 2 12 = -3", "tower '1111111'", "naps 1 12 = -3",
            "tower '11111'", "naps 1 4 = -2", "naps 2 1 = -2");
        Script.says("28: NONE: others", "tower '246'", "naps 0 5 = -1", "naps 3 5 = -1", "naps -1 5 = -1", "naps 1 0 = -1", "naps 1 13 = -1",
            "naps 1 -1 = -1", "naps 2147483647 5 = -1");
        Script.says("28: NONE: .. no BELLS", "naps 1 1 = -1", "naps 2 12 = -1", "naps 3 1 = -1");
        Script.says("28: (asked in the order NONE, -3)", "tower '111111'", "naps 0 5 = -1", "naps 3 5 = -1", "naps 1 0 = -1",
            "naps 1 13 = -1", "naps 1 5 = -3");
    }

    private static void bound() {
        Script.says("29: lets all miss s times (1 .. 99)", "tower '1111111'", "bound 1 = 7 : 1", "bound 99 = 693 : 197", "bound 0 = -1",
            "bound 100 = -1", "bound -1 = -1", "bound 2147483647 = -1");
        Script.says("29: The fewest ROUNDS by which MOST alone lets all miss", "tower '1111111'", "set 0 2", "bound 1 = 4", "bound 2 = 7",
            "set 0 3", "bound 1 = 3", "bound 2 = 5", "bound 3 = 7", "bound 99 = 231", "tower '111111'", "bound 1 = 2");
        Script.says("29: the ROW: the least by (2) alone: 2 s less 1", "tower '246'", "bound 1 : 1", "bound 2 : 3", "bound 99 : 197");
        Script.says("29: (0 without BELLS)", "bound 1 = 0 : 0", "bound 99 = 0 : 0", "bound 0 = -1", "bound 100 = -1");
    }
}
