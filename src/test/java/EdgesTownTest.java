/**
 * The boundary cases of promises 1 to 8, sentence by sentence: a new object, THE TEXT and its FAULTS, what is told.
 *
 * Of the words that hold for all promises two have no case that a call could reach: "bits of such" (UNKNOWN), as
 * no call is asked with a SET, and "/ cuts towards 0" below 0, as nothing below 0 is ever divided.
 */
public final class EdgesTownTest {
    private static final int NONE = Check.NONE, UNKNOWN = Check.UNKNOWN, OUTSIDE = Check.OUTSIDE, NOT = Check.NOT, FULL = Check.FULL;
    private static final int MIN = Integer.MIN_VALUE, MAX = Integer.MAX_VALUE;
    private static final String SIX = "p0 0;".repeat(6), EIGHT = "t0 1 0;".repeat(8);

    private static final Edges edges = new Edges("EdgesTownTest", 1, 8);

    public static void main(String[] args) {
        newObject();
        feed();
        peopleInTheText();
        ticketsInTheText();
        yearInTheText();
        rightsInTheText();
        numbers();
        words();
        blanks();
        whichFault();
        town();
        townLeftAlone();
        fault();
        told();
        person();
        ticket();
        right();
        edges.end();
    }

    private static Edge edge(int promise, String sentence) {
        return edges.of(promise, sentence);
    }

    /** A text of promise 3 that has no fault. */
    private static Edge stands(String sentence, String text) {
        return edge(3, sentence).town(text);
    }

    /** A text of promise 3 with this fault there, told to a town that stays as it was. */
    private static Edge falls(String sentence, String text, int kind, int at) {
        return edge(3, sentence).town("p7 7;t0 1 1;").faulty(text, kind, at);
    }

    // ---- promise 1

    private static void newObject() {
        edge(1, "Nobody, no TICKETS.").due(0, "told", 0).due(0, "told", 1).due(0, "told", 7).due(0, "told", 8)
            .refused(UNKNOWN, "person", 0, 0).refused(UNKNOWN, "odds", 0, 0).refused(UNKNOWN, "never", 0, 1)
            .refused(UNKNOWN, "buy", 0, 0, 0, 0).refused(UNKNOWN, "couples", 0, 0).refused(UNKNOWN, "candles", 0, 0)
            .refused(UNKNOWN, "ageBy", 0).refused(UNKNOWN, "ticket", 0, 0).refused(UNKNOWN, "draw", 0)
            .refused(UNKNOWN, "sell", 0, 0).refused(UNKNOWN, "pawn", 0, NONE).refused(UNKNOWN, "price", 0, 0)
            .refused(UNKNOWN, "see", 0).refused(UNKNOWN, "belief", 0).refused(UNKNOWN, "write", 0);
        edge(1, "Nobody, no TICKETS.").refused(NOT, "lots", 1).refused(NOT, "evens", 1, 0).refused(NOT, "rows", 1, NONE)
            .refused(NOT, "rows", 1, 0).refused(NOT, "sure", 1);
        edge(1, "Nobody, no TICKETS.").due(0, "couples", 0, NONE).due(NONE, "likeliest").due(1000000, "belief", NONE)
            .due(NONE, "judge").due(0, "tear");
        edge(1, "Nobody, no TICKETS.").due(0, "told", 2).due(0, "told", 3).due(0, "told", 4).due(0, "told", 9).due(0, "told", 10)
            .due(0, "told", 11).due(0, "told", 12).due(0, "told", 13).due(NONE, "fault").refused(NOT, "undo", 1);
        edge(1, "4 1 untold").due(4, "told", 5).due(1, "told", 6);
        edge(1, "6 18 18 65 untold").due(6, "right", 0).due(18, "right", 1).due(18, "right", 2).due(65, "right", 3);
        edge(1, "THE SEED (0 at first").due(0, "seed", 0);
        edge(1, "NOT: it was not kept").refused(NOT, "goBack", 0).refused(NOT, "goBack", 1);
        edge(1, "IMAGE i becomes what is so").due(1, "keep", 0).due(1, "goBack", 0).due(0, "told", 0).refused(NOT, "goBack", 1);
    }

    // ---- promise 2

    private static void feed() {
        edge(2, "A letter (0 .. 255) comes behind THE TEXT").due(1, "feed", 0).due(2, "feed", 255).due(2, "told", 2);
        edge(2, "OUTSIDE, FULL (250).").due(1, "feed", 'p').refused(OUTSIDE, "feed", -1).refused(OUTSIDE, "feed", 256)
            .refused(OUTSIDE, "feed", MIN).refused(OUTSIDE, "feed", MAX).refused(OUTSIDE, "feed", 256 + '9')
            .refused(OUTSIDE, "feed", '9' - 256).due(2, "feed", '1').letters(" 1;").due(1, "town").people(0, 1);
        edge(2, "OUTSIDE, FULL (250).").letters(" ".repeat(245) + "p1 1").due(250, "feed", ';').refused(FULL, "feed", 'x')
            .refused(FULL, "feed", ' ').refused(FULL, "feed", 0).due(250, "told", 2).due(1, "town").due(NONE, "fault");
        edge(2, "of several the first in this order").letters(" ".repeat(250)).refused(OUTSIDE, "feed", -1)
            .refused(OUTSIDE, "feed", 256).refused(FULL, "feed", 255).due(0, "town");
        edge(2, "(250 letters at most)").letters(" ".repeat(249)).due(250, "feed", 'p').due(-11, "town").due(250, "fault");
        edge(2, "how many it has").letters(" ".repeat(250)).due(0, "town").due(1, "feed", ' ').due(2, "feed", ' ');
    }

    // ---- promise 3: the text

    private static void peopleInTheText() {
        stands("AGE A 0 .. 99", "p0 5;").people(0, 0);
        stands("AGE A 0 .. 99", "p99 5;").people(0, 99);
        falls("AGE A 0 .. 99", "p100 5;", 2, 1);
        stands("COINS C 0 .. 999", "p5 0;").people(1, 0);
        stands("COINS C 0 .. 999", "p5 999;").people(1, 999);
        falls("COINS C 0 .. 999", "p5 1000;", 2, 3);
        stands("6 PEOPLE at most", SIX).due(6, "told", 0);
        falls("a seventh 'p'", SIX + "p0 0;", 3, 30);
        falls("a seventh 'p'", SIX + " p", 3, 31);
        // A seventh that is not told whole has its fault all the same, and a later fault waits for it.
        falls("a seventh 'p'", SIX + "p100x", 3, 30);
        stands("'p' A C ';'", "").due(0, "told", 0);
        falls("'p' A C ';'", "p;", 1, 1);
        falls("'p' A C ';'", "p1;", 1, 2);
        falls("'p' A C ';'", "p1 1 1;", 1, 5);
    }

    private static void ticketsInTheText() {
        stands("held by PERSON P told ahead", "p1 1;t0 1 0;").tickets(0, 0);
        stands("held by PERSON P told ahead", SIX + "t5 1 0;").tickets(0, 5);
        falls("a PERSON that was not told yet (at its first)", "t0 1 0;", 2, 1);
        falls("a PERSON that was not told yet (at its first)", "t0 1 0;p1 1;", 2, 1);
        falls("a PERSON that was not told yet (at its first)", "p1 1;t1 1 0;p1 1;", 2, 6);
        falls("a PERSON that was not told yet (at its first)", SIX + "t  6 1 0;", 2, 33);
        falls("a PERSON that was not told yet (at its first)", SIX + "t 999 1 0;", 2, 32);
        stands("WEIGHT W 1 .. 9", "p1 1;t0 1 0;t0 9 0;").tickets(1, 1, 9).due(10, "told", 8);
        falls("WEIGHT W 1 .. 9", "p1 1;t0 0 0;", 2, 8);
        falls("WEIGHT W 1 .. 9", "p1 1;t0 10 0;", 2, 8);
        stands("PRICE M 0 .. 99", "p1 1;t0 1 0;t0 1 99;").tickets(2, 0, 99);
        falls("PRICE M 0 .. 99", "p1 1;t0 1 100;", 2, 10);
        stands("8 TICKETS at most", "p1 1;" + EIGHT).due(8, "told", 1).due(255, "told", 7);
        falls("a ninth 't'", "p1 1;" + EIGHT + "t0 1 0;", 3, 61);
        falls("a ninth 't'", "p1 1;" + EIGHT + "  t", 3, 63);
        falls("'t' P W M ';'", "p1 1;t;", 1, 6);
        falls("'t' P W M ';'", "p1 1;t0 1;", 1, 9);
        falls("'t' P W M ';'", "p1 1;t0 1 0 0;", 1, 12);
    }

    private static void yearInTheText() {
        stands("each YEAR K DRAWS, 1 .. 8", "y1 1;").due(1, "told", 5);
        stands("each YEAR K DRAWS, 1 .. 8", "y8 1;").due(8, "told", 5);
        falls("each YEAR K DRAWS, 1 .. 8", "y0 1;", 2, 1);
        falls("each YEAR K DRAWS, 1 .. 8", "y9 1;", 2, 1);
        stands("with RETURN R 1, without 0", "y3 1;").due(1, "told", 6);
        stands("with RETURN R 1, without 0", "y3 0;").due(0, "told", 6);
        falls("with RETURN R 1, without 0", "y3 2;", 2, 3);
        stands("4 1 untold", "p1 1;").due(4, "told", 5).due(1, "told", 6);
        stands("4 1 untold", "y2 0;").town("p1 1;").due(4, "told", 5).due(1, "told", 6);
        falls("3 a seventh 'p', a ninth 't', 'y', 'r' again (at it)", "y1 1;y1 1;", 3, 5);
        falls("3 a seventh 'p', a ninth 't', 'y', 'r' again (at it)", "y4 1;p1 1; y", 3, 11);
        falls("'y' K R ';'", "y1;", 1, 2);
        falls("'y' K R ';'", "y1 1 1;", 1, 5);
    }

    private static void rightsInTheText() {
        stands("from AGES 0 .. 99 on", "r0 0 0 0;").due(0, "right", 0).due(0, "right", 1).due(0, "right", 2).due(0, "right", 3);
        stands("from AGES 0 .. 99 on", "r99 99 99 99;").due(99, "right", 0).due(99, "right", 1).due(99, "right", 2)
            .due(99, "right", 3);
        falls("from AGES 0 .. 99 on", "r100 0 0 0;", 2, 1);
        falls("from AGES 0 .. 99 on", "r0 100 0 0;", 2, 3);
        falls("from AGES 0 .. 99 on", "r0 0 100 0;", 2, 5);
        falls("from AGES 0 .. 99 on", "r0 0 0 100;", 2, 7);
        stands("RIGHTS 0 school, 1 vote, 2 wedding, 3 pension", "r1 2 3 4;").due(1, "right", 0).due(2, "right", 1)
            .due(3, "right", 2).due(4, "right", 3);
        stands("6 18 18 65 untold", "r1 2 3 4;").town("p1 1;").due(6, "right", 0).due(18, "right", 1).due(18, "right", 2)
            .due(65, "right", 3);
        falls("'y', 'r' again (at it)", "r1 2 3 4;r1 2 3 4;", 3, 9);
        falls("'y', 'r' again (at it)", "r1 2 3 4;y1 1;r", 3, 14);
        falls("'r' A B C D ';'", "r1 2 3;", 1, 6);
        falls("'r' A B C D ';'", "r1 2 3 4 5;", 1, 9);
    }

    private static void numbers() {
        stands("NUMBERS have one to three figures", "p7 9;").people(0, 7).people(1, 9);
        stands("NUMBERS have one to three figures", "p007 099;t000 009 000;y001 001;").people(0, 7).people(1, 99).tickets(1, 9);
        falls("2 a NUMBER of four figures or more, or out of its bounds", "p0007 0;", 2, 1);
        falls("2 a NUMBER of four figures or more, or out of its bounds", "p 7 0000;", 2, 4);
        falls("2 a NUMBER of four figures or more, or out of its bounds", "r0 0 0 00000;", 2, 7);
        // Numbers that an int would turn into 5, or into 0.
        falls("2 a NUMBER of four figures or more, or out of its bounds", "p4294967301 0;", 2, 1);
        falls("2 a NUMBER of four figures or more, or out of its bounds", "p18446744073709551616 0;", 2, 1);
        falls("2 a NUMBER of four figures or more, or out of its bounds", "p" + "9".repeat(200) + " 0;", 2, 1);
        // The signs beside the figures: '/' and ':'.
        falls("1 it cannot stand there (a letter that is no word)", "p/ 1;", 1, 1);
        falls("1 it cannot stand there (a letter that is no word)", "p: 1;", 1, 1);
        falls("1 it cannot stand there (a letter that is no word)", "p-1 1;", 1, 1);
        falls("1 it cannot stand there (a letter that is no word)", "p1.5 1;", 1, 2);
    }

    private static void words() {
        falls("a word is one letter", "pp1 1;", 1, 1);
        falls("a word is one letter", "p1 1;tt0 1 0;", 1, 6);
        falls("1 it cannot stand there (a letter that is no word)", "P1 1;", 1, 0);
        falls("1 it cannot stand there (a letter that is no word)", "q1 1;", 1, 0);
        falls("1 it cannot stand there (a letter that is no word)", ";", 1, 0);
        falls("1 it cannot stand there (a letter that is no word)", "p1 1;;", 1, 5);
        falls("1 it cannot stand there (a letter that is no word)", "5", 1, 0);
        falls("1 it cannot stand there (a letter that is no word)", "p1 1;5;", 1, 5);
        falls("1 it cannot stand there (a letter that is no word)", "p1 p1 1;", 1, 3);
        falls("1 it cannot stand there (a letter that is no word)", "" + (char) 0, 1, 0);
        falls("1 it cannot stand there (a letter that is no word)", "p1 1;" + (char) 255, 1, 5);
    }

    private static void blanks() {
        stands("blanks (32) may stand anywhere but within NUMBERS", "     ").due(0, "told", 0);
        stands("blanks (32) may stand anywhere but within NUMBERS", "  p  1   2  ;  t  0  3  4  ;  y  5  0 ;  r  1 2 3  4  ;  ")
            .people(1, 2).tickets(2, 4).due(5, "told", 5).due(4, "right", 3);
        stands("blanks (32) may stand anywhere but within NUMBERS", "p1 2;t0 3 4;y5 0;r1 2 3 4;").tickets(1, 3);
        falls("blanks (32) may stand anywhere but within NUMBERS", "p1 7 30;", 1, 5);
        falls("blanks (32)", "p1" + (char) 9 + "1;", 1, 2);
        falls("blanks (32)", "p1 1;" + (char) 10, 1, 5);
        falls("blanks (32)", "p1 1" + (char) 160 + ";", 1, 4);
        falls("two NUMBERS side by side need one", "p17;", 1, 3);
        falls("two NUMBERS side by side need one", "p1 1;t0 19;", 2, 8);
        stands("two NUMBERS side by side need one", "p1 7;").people(0, 1).people(1, 7);
    }

    private static void whichFault() {
        falls("(the end at the text's length)", "p", 1, 1);
        falls("(the end at the text's length)", "p1", 1, 2);
        falls("(the end at the text's length)", "p1 1", 1, 4);
        falls("(the end at the text's length)", "p1 1  ", 1, 6);
        falls("(the end at the text's length)", "p1 1;t0 1 0", 1, 11);
        falls("(the end at the text's length)", "r1 2 3 4", 1, 8);
        falls("at the first letter that has one", "p100", 2, 1);
        falls("at the first letter that has one", "p1000 1000;x", 2, 1);
        falls("at the first letter that has one", "p100x", 2, 1);
        falls("at the first letter that has one", "x p100 0;", 1, 0);
        falls("at the first letter that has one", "p1 1;;p100 0;", 1, 5);
        falls("at the first letter that has one", "y1 1;y9 9;x", 3, 5);
        falls("of these the least", "5000", 1, 0);
        falls("of these the least", "p1 1 1000;", 1, 5);
        falls("of these the least", "y1 1 9;", 1, 5);
        falls("of these the least", SIX + "y1 p", 1, 33);
        falls("of these the least", "y1 1;r1 y", 1, 8);
    }

    // ---- promise 3: the call

    private static void town() {
        edge(3, "THE TEXT (it is empty then, with a FAULT, too)").letters("p1 1;p2 2;").due(10, "told", 2).due(2, "town")
            .due(0, "told", 2).due(0, "town").due(0, "told", 0);
        edge(3, "THE TEXT (it is empty then, with a FAULT, too)").letters("p1 1").due(-11, "town").due(0, "told", 2)
            .due(0, "town").due(NONE, "fault");
        edge(3, "how many PEOPLE").due(0, "town").town("p1 1;").town(SIX).town("").due(0, "told", 0);
        // A lesser town behind a greater one: nothing of the others is left.
        edge(3, "becomes THE TOWN").town("p99 0;p0 0;p50 0;p50 0;p50 0;p50 0;" + EIGHT + "r0 0 0 0;").due(99, "told", 9)
            .due(3, "couples", 99, NONE).town("p5 0;t0 2 0;r0 0 0 0;").due(1, "told", 0).due(1, "told", 1).due(1, "told", 7)
            .due(2, "told", 8).due(0, "told", 9).due(0, "couples", 99, NONE).due(1, "rows", 4, NONE).people(3, 1).people(4, 1)
            .refused(UNKNOWN, "person", 1, 0).refused(UNKNOWN, "ticket", 1, 0).refused(UNKNOWN, "draw", 1)
            .refused(UNKNOWN, "pawn", 0, 1).due(0, "lots", 9);
        edge(3, "(YEAR 0, nothing PAWNED").town("p1 1;p1 1;t0 1 0;t0 1 0;y2 0;").times(3, "lots", 1).due(1, "told", 3)
            .due(1, "told", 4).town("p1 1;p1 1;t0 1 0;t0 1 0;y2 0;").due(0, "told", 3).due(0, "told", 4).due(3, "told", 7)
            .people(0, 1, 1).people(1, 1, 1);
        edge(3, "(YEAR 0, nothing PAWNED").town("p1 1;p1 1;t0 1 0;t0 1 0;").times(1, "pawn", 0, 1).times(1, "pawn", 1, 0)
            .town("p1 1;p1 1;t0 1 0;t0 1 0;").tickets(3, NONE, NONE).due(NONE, "pawn", 0, 0);
        edge(3, "nothing DRAWN was seen").town("p1 1;t0 1 0;t0 1 0;").times(8, "see", 1).town("p1 1;t0 1 0;t0 1 0;")
            .due(0, "told", 10).due(333333, "belief", 1).due(0, "likeliest").due(1, "see", 0);
        edge(3, "no CANDLES").town("p1 1;t0 1 0;").times(1, "candles", 0, 50).due(0, "rows", 1, NONE).town("p1 1;t0 1 0;")
            .due(0, "told", 11).due(1, "rows", 1, NONE);
        edge(3, "no BOOK").town("p1 1;t0 1 0;t0 1 0;y2 0;").times(20, "write", 0).due(1, "judge")
            .town("p1 1;t0 1 0;t0 1 0;y2 0;").due(0, "told", 12).due(NONE, "judge").due(1, "ageBy", 0).due(1, "write", 0);
        edge(3, "IMAGES, DRAWS to be undone are gone").town("p1 1;t0 1 0;").times(1, "keep", 0).times(1, "keep", 1)
            .town("p1 1;t0 1 0;").refused(NOT, "goBack", 0).refused(NOT, "goBack", 1);
        edge(3, "IMAGES, DRAWS to be undone are gone").town("p1 1;t0 1 0;").times(1, "lots", 40).due(30, "told", 13)
            .town("p1 1;t0 1 0;").due(0, "told", 13).refused(NOT, "undo", 1);
        edge(3, "THE SEED stays").town("p1 1;t0 1 0;").due(0, "seed", 2147483647).town("p2 2;").due(2147483647, "seed", 0);
    }

    private static void townLeftAlone() {
        String text = "p17 30;p5 0;t0 1 10;t1 2 5;y2 0;r1 2 3 4;";
        edge(3, "-10 less the number of its FAULT (all is as it was)").town(text).times(1, "seed", 77).times(1, "keep", 0)
            .times(3, "lots", 1).times(1, "pawn", 1, 0).times(1, "price", 0, 3).times(1, "see", 1).times(1, "candles", 1, 7)
            .times(1, "write", 0).faulty("y8 1;r9 9 9 9;p1 1;p2 2;p3 3;t0 9 9;t2 8 8;t3 7 7;", 2, 44);
        edge(3, "-10 less the number of its FAULT (all is as it was)").town(text).times(1, "keep", 1).times(1, "lots", 5)
            .faulty("x", 1, 0).faulty("y1 1;y", 3, 5).faulty("p1", 1, 2);
        // A faulty text leaves nothing for the next one either: no people, no 'y', no 'r' of it.
        edge(3, "-10 less the number of its FAULT (all is as it was)").letters("p1 1;p1 1;t1 9 9;y8 0;r1 2 3 4;x").due(-11, "town")
            .town("p2 2;t0 1 1;").due(4, "told", 5).due(1, "told", 6).due(6, "right", 0).due(1, "told", 1).due(1, "told", 8);
        edge(3, "-10 less the number of its FAULT (all is as it was)").faulty("p1 1;x", 1, 5).due(0, "told", 0);
    }

    // ---- promise 4

    private static void fault() {
        edge(4, "The letter of the FAULT of the latest town(); NONE.").due(NONE, "fault");
        edge(4, "The letter of the FAULT of the latest town(); NONE.").letters("x").due(NONE, "fault").due(-11, "town")
            .due(0, "fault");
        edge(4, "The letter of the FAULT of the latest town(); NONE.").letters("p1 1;x").due(-11, "town").due(5, "fault")
            .letters("p100 0;").due(5, "fault").due(-12, "town").due(1, "fault").town("p1 1;").due(NONE, "fault");
        edge(4, "(the end at the text's length)").letters(" ".repeat(248) + "p1").due(-11, "town").due(250, "fault");
        edge(4, "at the first letter that has one").letters(" ".repeat(249) + ";").due(-11, "town").due(249, "fault");
        edge(4, "(at it)").letters("y1 1;" + " ".repeat(244) + "y").due(-13, "town").due(249, "fault");
    }

    // ---- promise 5

    private static void told() {
        String text = "p5 1;p9 1;t0 1 0;t1 9 0;t1 2 0;y3 0;";
        edge(5, "OUTSIDE.").town(text).refused(OUTSIDE, "told", -1).refused(OUTSIDE, "told", 14).refused(OUTSIDE, "told", MIN)
            .refused(OUTSIDE, "told", MAX).due(2, "told", 0).due(0, "told", 13);
        edge(5, "0 PEOPLE, 1 TICKETS").town(SIX + EIGHT).due(6, "told", 0).due(8, "told", 1);
        edge(5, "2 letters of THE TEXT").due(0, "told", 2).letters(" ".repeat(250)).due(250, "told", 2);
        edge(5, "3 YEARS, 4 DRAWS of this YEAR").town(text).due(0, "told", 3).due(0, "told", 4).times(2, "lots", 1)
            .due(0, "told", 3).due(2, "told", 4).times(1, "lots", 1).due(1, "told", 3).due(0, "told", 4);
        edge(5, "5 K, 6 RETURN").town(text).due(3, "told", 5).due(0, "told", 6);
        edge(5, "7 TICKETS IN THE DRUM (a SET), 8 all WEIGHT IN THE DRUM").town(text).due(7, "told", 7).due(12, "told", 8)
            .due(1, "draw", 1).due(5, "told", 7).due(3, "told", 8).due(0, "draw", 0).due(4, "told", 7).due(2, "told", 8)
            .due(1, "draw", 2).due(7, "told", 7).due(12, "told", 8);
        edge(5, "7 TICKETS IN THE DRUM (a SET), 8 all WEIGHT IN THE DRUM").town("p1 1;" + "t0 9 0;".repeat(8))
            .due(255, "told", 7).due(72, "told", 8).due(0, "draw", 7).due(255, "told", 7);
        edge(5, "9 the SPREAD (0 without PEOPLE)").due(0, "told", 9).town("p99 0;").due(0, "told", 9).town("p3 0;p3 0;")
            .due(0, "told", 9).town("p50 0;p0 0;p99 0;").due(99, "told", 9).town("").due(0, "told", 9);
        edge(5, "9 the SPREAD (0 without PEOPLE)").town("p99 0;p0 0;t0 1 0;y1 1;").times(10, "lots", 99).due(999, "told", 9);
        edge(5, "10 DRAWS seen").town(text).due(0, "told", 10).times(8, "see", 0).due(8, "told", 10).refused(FULL, "see", 0);
        edge(5, "11 CANDLES (PEOPLE, a SET)").town(SIX).due(0, "told", 11).times(1, "candles", 5, 0).due(32, "told", 11)
            .times(1, "candles", 0, 0).times(1, "candles", 0, 1).due(33, "told", 11);
        edge(5, "12 lines of THE BOOK").town(text).due(0, "told", 12).times(20, "write", 0).due(20, "told", 12)
            .refused(FULL, "write", 0);
        edge(5, "13 DRAWS that can be undone").town(text).due(0, "told", 13).times(1, "lots", 30).due(30, "told", 13)
            .times(1, "lots", 1).due(30, "told", 13).times(1, "undo", 29).due(1, "told", 13);
    }

    // ---- promises 6 to 8

    private static void person() {
        String text = "p18 30;p65 7;p5 0;p17 0;p6 0;p64 0;t0 1 10;t1 2 5;t0 9 99;";
        edge(6, "UNKNOWN, OUTSIDE.").town(text).refused(UNKNOWN, "person", -1, 0).refused(UNKNOWN, "person", 6, 0)
            .refused(UNKNOWN, "person", MIN, 0).refused(UNKNOWN, "person", MAX, 0).due(64, "person", 5, 0);
        edge(6, "UNKNOWN, OUTSIDE.").town(text).refused(OUTSIDE, "person", 0, -1).refused(OUTSIDE, "person", 0, 5)
            .refused(OUTSIDE, "person", 0, MIN).refused(OUTSIDE, "person", 0, MAX).due(18, "person", 0, 0);
        edge(6, "of several the first in this order").town(text).refused(UNKNOWN, "person", 6, 5).refused(UNKNOWN, "person", -1, -1);
        edge(6, "A RIGHT is had by who has at least its AGE").town(text).people(2, 7, 15, 0, 1, 1, 7);
        edge(6, "A RIGHT is had by who has at least its AGE").town("p0 0;r0 0 0 0;").people(2, 15).town("p99 0;p98 0;r99 99 99 99;")
            .people(2, 15, 0);
        edge(6, "3 TICKETS held, 4 TICKETS by which it AGES (SETS)").town(text).people(3, 5, 2, 0, 0, 0, 0).people(4, 5, 2, 0, 0, 0, 0)
            .times(1, "pawn", 0, 2).people(3, 5, 2, 0).people(4, 4, 2, 1);
        edge(6, "3 TICKETS held, 4 TICKETS by which it AGES (SETS)").town("p0 0;p0 0;" + EIGHT).people(3, 255, 0).people(4, 255, 0);
        // A TICKET that is OUT is held, and aged by, all the same.
        edge(6, "3 TICKETS held, 4 TICKETS by which it AGES (SETS)").town("p0 0;t0 1 0;t0 1 0;y2 0;").due(0, "draw", 0)
            .people(3, 3).people(4, 3);
        edge(6, "0 AGE, 1 COINS").town("p99 999;").people(0, 99).people(1, 999).town("p0 0;").people(0, 0).people(1, 0);
    }

    private static void ticket() {
        String text = "p1 1;p2 2;t0 1 10;t1 9 99;t1 2 0;";
        edge(7, "UNKNOWN, OUTSIDE.").town(text).refused(UNKNOWN, "ticket", -1, 0).refused(UNKNOWN, "ticket", 3, 0)
            .refused(UNKNOWN, "ticket", MIN, 0).refused(UNKNOWN, "ticket", MAX, 0).due(1, "ticket", 2, 0);
        edge(7, "UNKNOWN, OUTSIDE.").town(text).refused(OUTSIDE, "ticket", 0, -1).refused(OUTSIDE, "ticket", 0, 4)
            .refused(OUTSIDE, "ticket", 0, MIN).refused(OUTSIDE, "ticket", 0, MAX).due(0, "ticket", 0, 0);
        edge(7, "of several the first in this order").town(text).refused(UNKNOWN, "ticket", 3, 4).refused(UNKNOWN, "ticket", -1, -1);
        edge(7, "0 HOLDER, 1 WEIGHT, 2 PRICE, 3 PLEDGEE (NONE)").town(text).tickets(0, 0, 1, 1).tickets(1, 1, 9, 2)
            .tickets(2, 10, 99, 0).tickets(3, NONE, NONE, NONE).times(1, "pawn", 2, 0).tickets(3, NONE, NONE, 0)
            .tickets(0, 0, 1, 1).times(1, "pawn", 2, NONE).tickets(3, NONE, NONE, NONE);
        edge(7, "0 HOLDER, 1 WEIGHT, 2 PRICE, 3 PLEDGEE (NONE)").town("p1 1;" + EIGHT).tickets(1, 1, 1, 1, 1, 1, 1, 1, 1)
            .refused(UNKNOWN, "ticket", 8, 0);
    }

    private static void right() {
        edge(8, "AGE of a RIGHT (0 .. 3). OUTSIDE.").town("r1 2 3 4;").refused(OUTSIDE, "right", -1).refused(OUTSIDE, "right", 4)
            .refused(OUTSIDE, "right", MIN).refused(OUTSIDE, "right", MAX).due(1, "right", 0).due(4, "right", 3);
        edge(8, "AGE of a RIGHT (0 .. 3). OUTSIDE.").town("r0 99 0 99;").due(0, "right", 0).due(99, "right", 1).due(0, "right", 2)
            .due(99, "right", 3);
    }
}
