/** The sentences of the document's Terms that name a boundary case, each with a test of its own. */
public final class TermSentences {
    private static final String TWENTY = "x.".repeat(19) + "x";
    private static final String SIXTY = "1234.".repeat(11) + "12345";
    private static final String FORTY = "1+".repeat(19) + "12";
    private static final String NEVER_AGAIN = "3.1.3.7.3.x.1.x.1.7.3.1.x.3.x.1.x";

    private TermSentences() {
    }

    public static void main(String[] args) {
        bells();
        order();
        method();
        changes();
        most();
        law();
        tenor();
        ruleSigns();
        ruleWorth();
        ruleThings();
        round();
        tired();
        row();
        noBells();
        refused();
        Script.close("TermSentences");
    }

    private static void bells() {
        Script.says("Terms 1: BELLS 3 .. 7", "tower '12' = -3", "count 0 = 0", "tower '123' = 3", "count 0 = 3", "tower '1234567' = 7",
            "count 0 = 7", "tower '12345678' = -8", "count 0 = 7");
        Script.says("Terms 1: each with a RINGER (the same number, 0 ..; written a .. g)", "tower '1234567'", "ringer 0 0 = 1",
            "ringer 6 0 = 7", "ringer 7 0 = throws", "ringer -1 0 = throws", "night 'a;g' = 2", "ringer 6 5 = 1", "ringer 0 5 = 0",
            "night 'h' = -1", "night '`' = -1");
        Script.says("Terms 1: WEIGHT 1 .. 9", "tower '191' = 3", "ringer 0 0 = 1", "ringer 1 0 = 9", "tower '101' = -2", "tower '1:1' = -2",
            "tower '1/1' = -2");
        Script.says("Terms 1: TIRED 0 .. 99 (at first 0)", "tower '246'", "ringer 0 1 = 0", "count 6 = 0", "rule '99'", "round 0 = 0",
            "ringer 0 1 = 99", "round 0 = 0", "ringer 0 1 = 99", "set 1 99", "round 1 = 0", "ringer 0 1 = 0", "round 1 = 2",
            "ringer 0 1 = 0");
        Script.says("Terms 1: SLEPT (how often it missed, at first 0)", "tower '246'", "count 5 = 0", "ringer 1 2 = 0", "round 2 = 0",
            "ringer 1 2 = 1", "round 2 = 2", "ringer 1 2 = 2", "ringer 0 2 = 0");
        Script.says("Terms 1: DRIFTS (at first 0)", "tower '246'", "count 4 = 0", "ringer 0 3 = 0", "sheet 2 1 99 0", "round 0 : 0 1",
            "ringer 0 3 = 1", "ringer 1 3 = 0");
        Script.says("Terms 1: THE TOWER is told by a text: 3 to 7 digits 1 .. 9: WEIGHTS of BELLS 0, 1, ...", "tower '975' = 3",
            "ringer 0 0 = 9", "ringer 1 0 = 7", "ringer 2 0 = 5", "tower '99' = -3", "tower '7654321' = 7", "ringer 6 0 = 1",
            "tower '11111111' = -8");
    }

    private static void order() {
        Script.says("Terms 1: THE ORDER .. (at first BELL 0 in PLACE 0, and so on)", "tower '7654321'", "bell 0 = 0", "bell 6 = 6",
            "order 0 = 0 : 0 1 2 3 4 5 6");
        Script.says("Terms 1: ROUNDS are counted (NOW, at first 0)", "count 2 = 0", "tower '246'", "count 2 = 0", "round 0", "count 2 = 1",
            "rounds 60", "count 2 = 61", "rounds 0", "count 2 = 61");
    }

    private static void method() {
        Script.says("Terms 1: THE METHOD is told by a text of at most 60 signs", "tower '12345'", "method '" + SIXTY + "' = 12",
            "method '" + SIXTY + ".x' = -61", "count 1 = 12");
        Script.says("Terms 1: CHANGES with . between (1 to 20)", "tower '246'", "method '" + TWENTY + "' = 20",
            "method '" + TWENTY + ".x' = -41", "count 1 = 20", "method 'x' = 1", "method '.' = -1", "method 'x1' = -2");
        Script.says("Terms 1: x, or 1 to 7 digits", "tower '1234567'", "method 'x' = 1", "method '7' = 1", "method '1234567' = 1",
            "order 1 = 0 : 0 1 2 3 4 5 6", "method '12345671' = -8", "method 'xx' = -2", "method '1x' = -2");
        Script.says("Terms 1: (places 1 ..; rising)", "tower '246'", "method '13' = 1", "order 1 = 0 : 0 1 2", "method '31' = -2",
            "method '11' = -2", "method '0' = -1", "method '3' = 1", "method '4' = -1");
        Script.says("Terms 1: PLACES told (less 1) stay", "tower '246'", "method '1'", "order 1 = 0 : 0 2 1", "method '3'",
            "order 1 = 1 : 1 0 2");
        Script.says("Terms 1: each that is not told and has a neighbour behind it that is not told, is swapped with that one",
            "tower '11111'", "method '2'", "order 1 = 0 : 0 1 3 2 4", "method '4'", "order 1 = 1 : 1 0 2 3 4");
        Script.says("Terms 1: from PLACE 0 on .. and both are done with", "tower '1111'", "method '4'", "order 1 = 1 : 1 0 2 3",
            "tower '1111111'", "order 1 = 1 : 1 0 3 2 5 4 6");
        Script.says("Terms 1: x: none is told", "tower '1111'", "method '1234.x'", "order 1 = 0 : 0 1 2 3", "order 2 = 1 : 1 0 3 2");
        Script.says("Terms 1: At first (and by an empty text): x alone", "count 1 = 1", "tower '246'", "order 1 = 1 : 1 0 2",
            "order 2 = 0 : 0 1 2", "method '123.1' = 2", "order 1 = 0 : 0 1 2", "method '' = 1", "count 1 = 1", "order 1 = 1 : 1 0 2",
            "order 2 = 0 : 0 1 2");
    }

    private static void changes() {
        Script.says("Terms 1: CHANGE k of THE METHOD (k NOW % how many) is done behind the ROUND", "tower '246'", "method 'x.1.123'",
            "order 0 = 0 : 0 1 2", "order 1 = 1 : 1 0 2", "order 2 = 1 : 1 2 0", "order 3 = 1 : 1 2 0", "order 4 = 2 : 2 1 0",
            "rounds 3", "bell 0 = 1", "round 0", "bell 0 = 2");
        Script.says("Terms 1: .. NOW, not the ROUNDS since THE METHOD was told", "tower '246'", "rounds 1", "method '123.x'",
            "order 1 = 0 : 0 1 2", "order 2 = 0 : 0 1 2", "order 3 = 1 : 1 0 2", "round 0", "bell 0 = 0");
    }

    private static void most() {
        Script.says("Terms 1: MOST 1 .. 3 (at first 1): no more miss in a ROUND", "count 9 = 1", "tower '9111111'", "may 4 = 0",
            "may 20 = 1", "set 0 2", "may 20 = 0", "may 84 = 1", "set 0 3", "may 84 = 0", "may 85 = 1", "set 0 4 = -1", "may 85 = 1",
            "set 0 0 = -1", "may 84 = 0");
        Script.says("Terms 1: (1) they are no more than MOST", "tower '11119'", "may 5 = 1", "set 0 2 = 1", "may 5 = 0", "may 7 = 1",
            "may 31 = 1");
    }

    private static void law() {
        Script.says("Terms 1: (2) none of them missed in the ROUND ahead", "tower '11119'", "method '12345'", "round 1 = 0", "may 1 = 2",
            "round 0 = 0", "may 1 = 0", "set 0 2", "round 5 = 0", "may 4 = 2", "may 10 = 0", "may 9 = 2");
        Script.says("Terms 1: (2) .. LAWFUL or not", "tower '11119'", "method '12345'", "round 7 = 1", "may 4 = 2", "may 8 = 0");
        Script.says("Terms 1: (3) no two of them are in neighbouring PLACES", "tower '1111191'", "set 0 2", "may 3 = 3", "may 96 = 3",
            "may 5 = 0", "may 65 = 0", "round 0", "may 9 = 3", "may 6 = 0", "may 3 = 3");
        Script.says("Terms 1: (4) none is in a PLACE that was missed in the ROUND ahead", "tower '11119'", "round 1 = 0", "may 2 = 4",
            "may 4 = 0", "round 0 = 0", "may 1 = 0", "may 2 = 0");
        Script.says("Terms 1: A set .. is LAWFUL, if (1) .. (5) — nobody is, in any ROUND", "tower '246'", "may 0 = 0", "round 7 = 1",
            "may 0 = 0", "round 0 = 0", "count 3 = 1");
    }

    private static void tenor() {
        Script.says("Terms 1: (5) no TENOR (the heaviest BELL, of equal ones the last) misses", "tower '464'", "count 7 = 1", "may 2 = 5",
            "may 1 = 0", "may 4 = 0", "tower '664'", "count 7 = 1", "may 1 = 0", "may 2 = 5", "tower '646'", "count 7 = 2", "may 1 = 0",
            "may 4 = 5", "tower '644'", "count 7 = 0", "may 1 = 5", "may 4 = 0", "tower '1111111'", "count 7 = 6", "may 64 = 5");
        Script.says("Terms 1: .. in a ROUND whose number (NOW ahead of it) is a multiple of 7", "tower '246'", "may 4 = 5", "round 0",
            "may 4 = 0", "rounds 5", "may 4 = 0", "round 0", "count 2 = 7", "may 4 = 5", "round 4 = 5", "count 3 = 1", "rounds 6",
            "count 2 = 14", "may 4 = 5", "rounds 56", "may 4 = 5", "round 0", "may 4 = 0");
    }

    private static void rule(String sentence, String rule, int worth) {
        Script.says("Terms 1: " + sentence, "tower '359'", "sheet 2 3 10 20", "rule '" + rule + "' = 0", "ringer 2 6 = " + worth);
    }

    private static void ruleSigns() {
        Script.says("Terms 1: THE RULE is a text of at most 40 signs", "tower '359'", "rule '" + FORTY + "' = 0", "ringer 2 6 = 31",
            "rule '" + FORTY + "+' = -41", "ringer 2 6 = 31");
        Script.says("Terms 1: (at first none: w/2+1)", "tower '129'", "ringer 0 6 = 1", "ringer 1 6 = 2", "ringer 2 6 = 5", "rule '7'",
            "rule '' = 0", "ringer 2 6 = 5");
        Script.says("Terms 1: < > = (two; .. not one behind the other)", "tower '359'", "rule '1<2<3' = -4", "rule '1=1>0' = -4",
            "rule '(1<2)<3' = 0", "ringer 2 6 = 1", "rule '1<(2<3)' = 0", "ringer 2 6 = 0");
        Script.says("Terms 1: a NUMBER of 1 to 3 digits", "tower '359'", "rule '7' = 0", "ringer 2 6 = 7", "rule '999-977' = 0",
            "ringer 2 6 = 22", "rule '007' = 0", "ringer 2 6 = 7", "rule '1000' = -4", "rule '0007' = -4");
        Script.says("Terms 1: an EXPRESSION in ( ) (at most 4 in one another)", "tower '359'", "rule '((((5))))' = 0", "ringer 2 6 = 5",
            "rule '(((((5)))))' = -5", "rule '(1)+(1)+((1)+(1))+(1)+(1)' = 0", "ringer 2 6 = 6", "rule '()' = -2");
        Script.says("Terms 1: - ahead of a thing (any many)", "tower '359'", "rule '--3' = 0", "ringer 2 6 = 3",
            "rule '9+---3' = 0", "ringer 2 6 = 6", "rule '" + "-".repeat(38) + "3' = 0", "ringer 2 6 = 3", "rule '-' = -2",
            "rule '-(2-8)' = 0", "ringer 2 6 = 6");
    }

    private static void ruleWorth() {
        rule("< .. 1 or 0", "3<4", 1);
        rule("< .. not equal ones", "4<4", 0);
        rule("> .. 1 or 0", "4>3", 1);
        rule("> .. not equal ones", "4>4", 0);
        rule("= .. 1", "4=4", 1);
        rule("= .. 0", "4=5", 0);
        rule("< > = bind least, so + goes ahead", "1+2=3", 1);
        rule("< > = bind least, so * goes ahead", "7<2*4", 1);
        rule("+ - (from the left)", "20-5-3", 12);
        rule("+ - (from the left), + behind -", "20-5+3", 18);
        rule("then * / ahead of + -", "2+3*4-8/2", 10);
        rule("* / (from the left)", "40/4/5*7", 14);
        rule("* / (from the left), * behind /", "7/2*2", 6);
        rule("by 0: 0", "9/0+4", 4);
        rule("by 0: 0, a worth of 0", "9/(w-9)+3", 3);
        rule("cut to 0 above 0", "7/2", 3);
        rule("cut to 0 below 0", "-7/2+9", 6);
        rule("cut to 0 below 0, by one below 0", "7/-2+9", 6);
        rule("cut to 0 of two below 0", "-7/-2", 3);
        rule("- ahead of a thing binds most", "2*-3+9", 3);
        rule("As ints: more than there are", "999*999*999*5", 99);
        rule("As ints: they go on below 0", "999*999*999*3<0", 1);
        rule("As ints: the least by -1", "128*128*128*128*8/-1<0", 1);
        rule("As ints: the least, less 1", "0-128*128*128*128*8-1>0", 1);
    }

    private static void ruleThings() {
        Script.says("Terms 1: w WEIGHT", "tower '359'", "rule 'w'", "round 0", "ringer 0 1 = 3", "ringer 2 1 = 9");
        Script.says("Terms 1: t TIRED (ahead of it)", "tower '359'", "sheet 2 3 5 0", "rule 't'", "round 0", "ringer 0 1 = 10", "round 0",
            "ringer 0 1 = 20");
        Script.says("Terms 1: p its PLACE (in the ROUND, from 0)", "tower '359'", "rule 'p*10'", "round 0", "ringer 0 1 = 0",
            "ringer 1 1 = 10", "ringer 2 1 = 20", "round 0", "ringer 0 1 = 10", "ringer 1 1 = 10");
        Script.says("Terms 1: r the ROUND's number (from 0)", "tower '359'", "rule 'r+1'", "round 0", "ringer 0 1 = 1", "round 0",
            "ringer 0 1 = 3");
        Script.says("Terms 1: i its own (from 0)", "tower '359'", "rule 'i*10'", "round 0", "ringer 0 1 = 0", "ringer 1 1 = 10",
            "ringer 2 1 = 20");
        Script.says("Terms 1: s SLEPT", "tower '359'", "rule 's*10'", "round 1", "ringer 0 1 = 0", "round 0", "ringer 0 1 = 10",
            "ringer 1 1 = 0");
        Script.says("Terms 1: m how many miss in the ROUND", "tower '359'", "rule 'm*10+1'", "round 0", "ringer 2 1 = 1", "round 3 = 1",
            "ringer 2 1 = 22", "ringer 0 1 = 0", "round 1", "ringer 2 1 = 33");
        Script.says("Terms 1: .. of a RINGER that rings in a ROUND: of those that miss nothing is asked", "tower '359'", "rule '99'",
            "round 7 = 1 : 7 0", "count 6 = 0");
    }

    private static void round() {
        Script.says("Terms 1: (1) if that is not LAWFUL, DEATHS (at first 0) are 1 more", "count 3 = 0", "tower '246'", "count 3 = 0",
            "round 1 = 0", "count 3 = 0", "round 7 = 1", "count 3 = 1", "round 7 = 1", "count 3 = 2", "round 0 = 0", "count 3 = 2");
        Script.says("Terms 1: (3) THE ORDER changes; NOW is 1 more", "tower '246'", "round 0", "bell 0 = 1", "bell 1 = 0", "bell 2 = 2",
            "count 2 = 1", "round 7 = 1", "bell 0 = 0", "count 2 = 2");
        Script.says("Terms 1: Which RINGERS missed in it, in which PLACES, is kept for the next ROUND (at first none)", "count 8 = 0",
            "tower '246'", "count 8 = 0", "ringer 0 5 = 0", "may 1 = 0", "round 3 = 1", "count 8 = 3", "ringer 0 5 = 1",
            "ringer 1 5 = 1", "ringer 2 5 = 0", "round 4 = 0", "count 8 = 4", "ringer 0 5 = 0", "round 0", "count 8 = 0",
            "ringer 2 5 = 0");
    }

    private static void tired() {
        Script.says("Terms 1: each that misses has SLEPT 1 more, and is REST (1 .. 99, at first 9) less TIRED (0 at least)",
            "count 10 = 9", "tower '246'", "sheet 2 3 8 1", "round 7 = 1", "ringer 0 1 = 0", "ringer 1 1 = 0", "ringer 2 1 = 1",
            "count 5 = 3");
        Script.says("Terms 1: REST 1", "tower '246'", "set 1 1", "sheet 2 3 0 1", "round 7", "ringer 0 1 = 0", "ringer 1 1 = 0",
            "ringer 2 1 = 1");
        Script.says("Terms 1: REST 99", "tower '246'", "set 1 99", "sheet 2 3 99 0", "round 1", "ringer 0 1 = 0");
        Script.says("Terms 1: each other is more TIRED by THE RULE (put to 0 .. 99)", "tower '246'", "rule '999'", "round 0 = 0 : 0 0",
            "ringer 0 1 = 99", "ringer 0 3 = 0", "rule '0-50'", "round 0 = 0 : 0 0", "ringer 0 1 = 99");
        Script.says("Terms 1: if it would be more than 99, it DRIFTS: DRIFTS are 1 more, TIRED is 99", "tower '246'", "rule '1'",
            "sheet 2 3 98 -1", "round 0 = 0 : 0 0", "ringer 0 1 = 99", "ringer 0 3 = 0", "round 0 = 0 : 0 1", "ringer 0 1 = 99",
            "ringer 0 3 = 1", "ringer 1 1 = 99", "ringer 1 3 = 0", "round 0 = 0 : 0 3", "ringer 0 3 = 2", "rule '99'", "round 0 : 0 7",
            "ringer 0 3 = 3", "ringer 0 1 = 99");
    }

    private static void row() {
        Script.says("Terms 2: ROW: numbers told last by a call that says so", "count 12 = 0", "row 0 = throws", "tower '246' = 3 :",
            "order 2 = 0 : 0 1 2", "lead = 2 : 0 1 2", "may 0 = 0 : 0 1 2", "beer 0 = 0 : 0 1 2", "keep 0 = true : 0 1 2",
            "again 0 = true : 0 1 2", "set 0 1 = 1 : 0 1 2", "method 'x' = 1 : 0 1 2", "rule 'w' = 0 : 0 1 2", "round 1 = 0 : 1 0",
            "missed 1 = 1 : 1 0", "undo = 0 : 1 0", "bound 1 = 3 : 1", "sheet 2 3 0 0 = 0 : 1", "tower '246' = 3 : 1");
        Script.says("Terms 2: Rows of numbers are compared from the first on", "tower '11119'", "method '12345'",
            "matches 7 1 = 1 : -1 2 1 -1 -1");
        Script.says("Terms 2: Sets are bits", "tower '1111119'", "round 127 = 1 : 127 0", "missed 1 = 127", "count 8 = 127",
            "night 'g'", "missed 1 = 64");
        Script.says("Terms 2: Questions change nothing", "tower '24681'", "method 'x.1'", "round 1", "order 200", "truth", "lead",
            "leads 0 4", "comes 'abcde'", "course 0 1 200", "may 31", "lawful", "covers 2", "rivals 0 1 60", "matches 31 60",
            "sleeps 12", "naps 2 12", "bound 99", "missed 1", "heard 0 60", "reads '12345123451234'", "said 1", "says 8 9", "fails",
            "lasts", "stout 60", "weariest 60", "coughs 1 60 9", "count 2 = 1");
        Script.says("Terms 2: what is asked of ROUNDS to come looks on for 200 at most", "tower '1234567'", "method '" + NEVER_AGAIN + "'",
            "order 200 = 1 : 1 3 5 6 0 4 2", "order 201 = -1", "truth = -2", "lead = -2", "comes 'bdfgaec' = 200 : 0",
            "comes 'dbfagce' = -2", "rule '99*(r=200)+(r=0)'", "fails = -2", "lasts = -2");
    }

    private static void noBells() {
        Script.says("Terms 2: Where no BELLS tell -2 .., that is asked first", "bound 1 = 0 : 0", "round -1 = -2", "round 1 = -2",
            "rounds -1 = -2", "rounds 61 = -2", "order -1 = -2", "order 201 = -2", "truth = -2", "lead = -2", "may -1 = -2", "may 1 = -2",
            "lawful = -2", "fails = -2", "lasts = -2 : 0");
        Script.says("Terms 2: Where no BELLS tell .. -100, that is asked first", "comes '' = -100", "comes '?' = -100",
            "comes 'abc' = -100", "reads '' = -100", "reads '?' = -100", "reads '---------------' = -100");
        Script.says("Terms 2: .. elsewhere no BELLS are none such", "leads 0 0 = -1", "course 0 1 1 = -1", "covers 0 = -1",
            "rivals 0 1 1 = -1", "matches 1 1 = -1", "matches 0 1 = 0 :", "heard 0 0 = -1", "beer 0 = -1");
    }

    private static void refused() {
        Script.says("Terms 2: Refused calls answer NONE, or false, and change nothing", "tower '246'", "round 1", "text 'ab'",
            "end 3 = false", "end -1 = false", "set 2 1 = -1", "sheet 4 1 1 1 = -1", "sheet 2 8 1 1 = -1", "sheet 2 -1 1 1 = -2",
            "round 8 = -1", "rounds 61 = -1", "beer 3 = -1", "order 201 = -1", "leads 3 0 = -1", "course 0 0 1 = -1", "may 8 = -1",
            "covers 3 = -1", "rivals 0 0 1 = -1", "matches 8 1 = -1", "sleeps 13 = -1", "naps 3 1 = -1", "bound 100 = -1",
            "missed 0 = -1", "heard 3 0 = -1", "said 10 = -1", "says -1 1 = -1", "stout 61 = -1", "weariest 61 = -1",
            "coughs 1 61 1 = -1", "keep 2 = false", "again 0 = false", "count 13 = 2", "undo = 0", "undo = -1 : 1 0");
        Script.says("Terms 2: .. but THE TEXT, which a call that can read it empties, whatever it answers", "text 'ab'", "tower = -1",
            "count 13 = 0", "text 'ab'", "method = -1", "count 13 = 0", "text 'ab'", "rule = -1", "count 13 = 0", "text 'h'",
            "night = -1", "count 13 = 0", "text 'ab'", "comes = -100", "count 13 = 0", "text '1'", "reads = -100", "count 13 = 0",
            "tower '246' = 3", "count 13 = 0", "comes 'bca' = -2", "count 13 = 0", "comes 'abc' = 0", "count 13 = 0",
            "reads '1' = 1", "count 13 = 0", "night 'd' = 0", "count 13 = 0", "rule 'w' = 0", "count 13 = 0", "method 'x' = 1",
            "count 13 = 0");
        Script.says("Terms 2: The ROW stays with NONE and with each number below 0 that tells why there is no answer", "tower '1234'",
            "method '1234'", "rule '0'", "bound 99 = 396 : 197", "undo = -1 : 197", "leads 1 0 = -2 : 197", "comes 'bacd' = -2 : 197",
            "comes 'abc' = -4 : 197", "covers 3 = -2 : 197", "naps 1 1 = -2 : 197", "missed 1 = -2 : 197", "reads '5' = -1 : 197",
            "said 1 = -2 : 197", "says 5 1 = -2 : 197", "fails = -2 : 197", "lasts = -2 : 197", "night '?' = -1 : 197",
            "sheet 3 0 0 0 = -3 : 197", "sheet 1 -1 0 0 = -2 : 197", "rule '9'", "stout 60 = -2 : 197", "tower '111111' = 6 : 197",
            "naps 1 12 = -3 : 197");
    }
}
