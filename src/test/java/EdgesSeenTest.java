/** The boundary cases of promises 20 to 29, sentence by sentence: the weighed drum, candles, THE BOOK, tearing. */
public final class EdgesSeenTest {
    private static final int NONE = Check.NONE, UNKNOWN = Check.UNKNOWN, OUTSIDE = Check.OUTSIDE, NOT = Check.NOT, FULL = Check.FULL;
    private static final int MIN = Integer.MIN_VALUE, MAX = Integer.MAX_VALUE;
    private static final String OLD = "p99 0;p5 0;t0 1 0;t1 1 0;y1 1;";

    private static final Edges edges = new Edges("EdgesSeenTest", 20, 29);

    public static void main(String[] args) {
        see();
        belief();
        likeliest();
        candles();
        rows();
        rowsOfThisYearAndOn();
        sure();
        write();
        judge();
        ageBy();
        tear();
        edges.end();
    }

    private static Edge edge(int promise, String sentence) {
        return edges.of(promise, sentence);
    }

    /** PERSON 0 is of AGE 999 then: all its COINS and DRAWS go by, PERSON 1 is as it was. */
    private static Edge grownOld(Edge edge) {
        return edge.town(OLD).times(1, "pawn", 1, 0).times(10, "lots", 99).times(1, "pawn", 1, NONE).people(0, 999, 5);
    }

    // ---- promise 20

    private static void see() {
        String text = "p1 1;t0 1 0;t0 3 0;y2 0;";
        edge(20, "A TICKET seen DRAWN: how many. UNKNOWN, FULL (8).").town(text).refused(UNKNOWN, "see", -1).refused(UNKNOWN, "see", 2)
            .refused(UNKNOWN, "see", MIN).refused(UNKNOWN, "see", MAX).due(1, "see", 0).refused(UNKNOWN, "see", 2).due(2, "see", 1);
        edge(20, "A TICKET seen DRAWN: how many. UNKNOWN, FULL (8).").town(text).times(7, "see", 1).due(8, "see", 0)
            .refused(FULL, "see", 0).refused(FULL, "see", 1).due(8, "told", 10).times(1, "tear").due(1, "see", 0);
        edge(20, "of several the first in this order").town(text).times(8, "see", 1).refused(UNKNOWN, "see", -1)
            .refused(UNKNOWN, "see", 2).refused(FULL, "see", 1);
        // What is OUT of this YEAR's drum can be seen drawn, and again: nothing of section 2 changes by it.
        edge(20, "TICKETS seen drawn one by one, with RETURN, each from all TICKETS").town(text).due(0, "draw", 0).due(1, "see", 0)
            .due(2, "see", 0).due(2, "told", 7).due(1, "told", 4).people(0, 2);
    }

    // ---- promise 21

    private static void belief() {
        String text = "p1 1;t0 1 0;t0 3 0;";
        edge(21, "BELIEF in a TICKET (or NONE) being HEAVY. UNKNOWN.").town(text).refused(UNKNOWN, "belief", -2)
            .refused(UNKNOWN, "belief", 2).refused(UNKNOWN, "belief", MIN).refused(UNKNOWN, "belief", MAX).due(333333, "belief", NONE)
            .due(333333, "belief", 1);
        edge(21, "all alike likely ahead (as many and 1)").due(1000000, "belief", NONE).town("p1 1;").due(1000000, "belief", NONE)
            .town("p1 1;t0 9 0;").due(500000, "belief", NONE).due(500000, "belief", 0)
            .town("p1 1;" + "t0 9 0;".repeat(8)).due(111111, "belief", NONE).due(111111, "belief", 7);
        // 2/5, 1/7 and 1/4 of a BILLION: 400000000, 142857142, 250000000.
        edge(21, "times its own WEIGHT (doubled, if it is the guess) / all WEIGHT then").town(text).times(1, "see", 0)
            .due(504504, "belief", 0).due(180180, "belief", 1).due(315315, "belief", NONE);
        // The only TICKET is drawn always, heavy or not.
        edge(21, "times its own WEIGHT (doubled, if it is the guess) / all WEIGHT then").town("p1 1;t0 9 0;").times(8, "see", 0)
            .due(500000, "belief", 0).due(500000, "belief", NONE);
        // 1 of 64, 2 of 65, 1 of 73, cut each time: behind five only the guess 0 is left (27), behind six none.
        String light = "p1 1;t0 1 0;" + "t0 9 0;".repeat(7);
        edge(21, "as a BILLION at first, cut each time").town(light).times(5, "see", 0).due(1000000, "belief", 0).due(0, "belief", 1)
            .due(0, "belief", NONE);
        edge(21, "(0, if they are 0)").town(light).times(6, "see", 0).due(0, "belief", 0).due(0, "belief", 1).due(0, "belief", NONE);
        edge(21, "(0, if they are 0)").town(light).times(8, "see", 0).due(0, "belief", 0).due(0, "belief", 7).due(0, "belief", NONE);
        // Together they are 1, not 0: the guess 1 alone is left, and all of it.
        edge(21, "(0, if they are 0)").town("p1 1;t0 2 0;t0 1 0;t0 8 0;t0 1 0;t0 6 0;").times(2, "see", 3).times(2, "see", 1)
            .times(1, "see", 3).times(3, "see", 1).due(1000000, "belief", 1).due(0, "belief", 3).due(0, "belief", NONE)
            .due(1, "likeliest");
        // The WEIGHT of all TICKETS counts, though one is OUT of this YEAR's drum.
        edge(21, "each from all TICKETS").town("p1 1;t0 1 0;t0 3 0;y2 0;").due(0, "draw", 1).times(1, "see", 0).due(504504, "belief", 0)
            .due(315315, "belief", NONE);
    }

    // ---- promise 22

    private static void likeliest() {
        edge(22, "LIKELIEST (NONE: none is).").due(NONE, "likeliest").town("p1 1;").due(NONE, "likeliest");
        // 2*27/625, 216/2401, 27/256.
        edge(22, "LIKELIEST (NONE: none is).").town("p1 1;t0 1 0;t0 3 0;").times(1, "see", 0).times(3, "see", 1).due(NONE, "likeliest");
        edge(22, "(of like ones the least TICKET, none last)").town("p1 1;t0 1 0;t0 3 0;").due(0, "likeliest");
        edge(22, "(of like ones the least TICKET, none last)").town("p1 1;t0 2 0;t0 2 0;t0 2 0;").times(1, "see", 2).times(1, "see", 1)
            .due(1, "likeliest").times(1, "see", 2).due(2, "likeliest");
        edge(22, "(of like ones the least TICKET, none last)").town("p1 1;t0 9 0;").times(8, "see", 0).due(0, "likeliest");
        // All guesses are 0 behind six such DRAWS: like ones again.
        edge(22, "(of like ones the least TICKET, none last)").town("p1 1;" + "t0 9 0;".repeat(7) + "t0 1 0;").times(5, "see", 7)
            .due(7, "likeliest").times(1, "see", 7).due(0, "likeliest").times(2, "see", 7).due(0, "likeliest");
    }

    // ---- promise 23

    private static void candles() {
        String text = "p10 0;p20 0;p30 0;t0 1 0;t1 1 0;";
        edge(23, "PEOPLE told (a SET). UNKNOWN, OUTSIDE.").town(text).refused(UNKNOWN, "candles", -1, 5).refused(UNKNOWN, "candles", 3, 5)
            .refused(UNKNOWN, "candles", MIN, 5).refused(UNKNOWN, "candles", MAX, 5).due(0, "told", 11);
        edge(23, "CANDLES of a PERSON (0 .. 999)").town(text).refused(OUTSIDE, "candles", 0, -1).refused(OUTSIDE, "candles", 0, 1000)
            .refused(OUTSIDE, "candles", 0, MIN).refused(OUTSIDE, "candles", 0, MAX).due(0, "told", 11).due(1, "candles", 0, 0)
            .due(1, "candles", 0, 999).due(0, "rows", 1, NONE);
        edge(23, "of several the first in this order").town(text).refused(UNKNOWN, "candles", 3, 1000).refused(UNKNOWN, "candles", -1, -1);
        // A refused AGE leaves the latest as it was.
        edge(23, "the latest of each; 0 .. 999").town(text).due(1, "candles", 0, 50).due(1, "candles", 0, 11)
            .refused(OUTSIDE, "candles", 0, 1000).refused(OUTSIDE, "candles", 0, -1).due(1, "rows", 1, NONE).due(0, "rows", 1, 0)
            .due(3, "candles", 1, 20).due(1, "rows", 1, NONE).due(3, "candles", 1, 21).due(0, "rows", 1, NONE).due(2, "rows", 2, NONE);
        edge(23, "PEOPLE told (a SET)").town("p1 1;".repeat(6)).due(32, "candles", 5, 1).due(33, "candles", 0, 1).due(35, "candles", 1, 1)
            .due(39, "candles", 2, 1).due(47, "candles", 3, 1).due(63, "candles", 4, 1).due(63, "candles", 4, 2);
    }

    // ---- promise 24

    private static void rows() {
        String text = "p10 0;p20 0;p30 0;t0 1 0;t1 1 0;t0 1 0;y4 1;";
        edge(24, "behind the next m DRAWS (1 .. 4").town(text).refused(OUTSIDE, "rows", 0, NONE).refused(OUTSIDE, "rows", 5, NONE)
            .refused(OUTSIDE, "rows", -1, NONE).refused(OUTSIDE, "rows", MIN, 0).refused(OUTSIDE, "rows", MAX, 0)
            .due(3, "rows", 1, NONE).due(9, "rows", 2, NONE).due(27, "rows", 3, NONE).due(81, "rows", 4, NONE);
        edge(24, "NOT: no TICKETS").town("p10 0;").refused(NOT, "rows", 1, NONE).refused(NOT, "rows", 4, NONE).refused(NOT, "rows", 1, 0)
            .refused(NOT, "rows", 1, 1).refused(NOT, "rows", 1, -2).refused(NOT, "rows", 4, MAX).refused(NOT, "rows", 4, MIN);
        edge(24, "of several the first in this order").town("p10 0;").refused(OUTSIDE, "rows", 0, NONE).refused(OUTSIDE, "rows", 5, 0);
        edge(24, "i = NONE how many, else the i-th of the first; NONE").town(text).times(1, "candles", 0, 12).due(12, "rows", 3, NONE)
            .due(0, "rows", 3, 0).due(0, "rows", 3, 1).due(1, "rows", 3, 2).due(NONE, "rows", 3, 3).due(NONE, "rows", 3, -2)
            .due(NONE, "rows", 3, MAX).due(NONE, "rows", 3, MIN).due(0, "rows", 4, 0).due(1, "rows", 4, 3).due(NONE, "rows", 4, 4);
        edge(24, "i = NONE how many, else the i-th of the first; NONE").town(text).times(1, "candles", 0, 12).due(0, "rows", 1, NONE)
            .due(NONE, "rows", 1, 0).due(NONE, "rows", 1, 1).due(NONE, "rows", 1, -2);
        // Nobody grows younger, nor by more years than DRAWS, nor without a TICKET.
        edge(24, "rows of TICKETS by which it is so").town(text).times(1, "candles", 0, 9).due(0, "rows", 1, NONE).due(0, "rows", 4, NONE)
            .times(1, "candles", 0, 14).due(16, "rows", 4, NONE).due(0, "rows", 3, NONE).times(1, "candles", 0, 15).due(0, "rows", 4, NONE);
        edge(24, "rows of TICKETS by which it is so").town(text).times(1, "candles", 2, 30).due(81, "rows", 4, NONE)
            .times(1, "candles", 2, 31).due(0, "rows", 4, NONE);
        edge(24, "rows of TICKETS by which it is so").town(text).times(1, "candles", 0, 10).due(1, "rows", 4, NONE).due(1, "rows", 4, 3)
            .times(1, "candles", 1, 24).due(1, "rows", 4, NONE).due(0, "rows", 3, NONE).times(1, "candles", 1, 23).due(0, "rows", 4, NONE);
        edge(24, "who AGES by it is its PLEDGEE, else its HOLDER").town(text).times(1, "pawn", 0, 2).times(1, "candles", 0, 11)
            .due(1, "rows", 1, NONE).due(2, "rows", 1, 0).times(1, "candles", 2, 31).due(2, "rows", 2, NONE).due(0, "rows", 2, 0);
        edge(24, "how many; the i-th of the first row").town("p1 1;" + "t0 1 0;".repeat(8)).due(4096, "rows", 4, NONE).due(8, "rows", 1, NONE)
            .due(0, "rows", 4, 3);
        // At 999 a DRAW leaves the AGE as it is.
        grownOld(edge(24, "AGE 999 at most")).times(1, "candles", 0, 999).due(2, "rows", 1, NONE).due(16, "rows", 4, NONE)
            .times(1, "candles", 1, 5).due(1, "rows", 4, NONE).times(1, "candles", 0, 998).due(0, "rows", 1, NONE);
        // From 998 all rows but the one without PERSON 0.
        edge(24, "AGE 999 at most").town(OLD).times(1, "pawn", 1, 0).times(9, "lots", 99).times(1, "lots", 8).times(1, "pawn", 1, NONE)
            .people(0, 998, 5).times(1, "candles", 0, 999).due(15, "rows", 4, NONE).due(1, "rows", 1, NONE);
    }

    private static void rowsOfThisYearAndOn() {
        // This YEAR has one DRAW more, of 1 or 2; then two of three, and so on.
        edge(24, "of this YEAR and on").town("p10 0;p20 0;t0 1 0;t1 1 0;t0 1 0;y2 0;").due(0, "draw", 0).due(2, "rows", 1, NONE)
            .due(1, "rows", 1, 0).due(6, "rows", 2, NONE).due(0, "rows", 2, 1).due(12, "rows", 3, NONE).due(36, "rows", 4, NONE)
            .due(1, "rows", 4, 2).due(0, "rows", 4, 3);
        edge(24, "(or when none is IN THE DRUM)").town("p10 0;p20 0;t0 1 0;t1 1 0;y8 0;").due(2, "rows", 2, NONE).due(4, "rows", 3, NONE)
            .due(4, "rows", 4, NONE).due(0, "draw", 0).due(1, "rows", 1, NONE).due(1, "rows", 1, 0).due(2, "rows", 2, NONE)
            .due(4, "rows", 4, NONE);
        // The DRAW that would have been the third of the YEAR is the first of the next: its TICKET is OUT behind it.
        edge(24, "(or when none is IN THE DRUM)").town("p10 0;t0 1 0;t0 1 0;y3 0;").due(4, "rows", 3, NONE).due(4, "rows", 4, NONE)
            .due(0, "rows", 4, 2).due(1, "rows", 4, 3);
        edge(24, "of this YEAR and on").town("p10 0;t0 1 0;t0 1 0;y1 0;").due(16, "rows", 4, NONE);
        edge(24, "of this YEAR and on").town("p10 0;" + "t0 1 0;".repeat(8) + "y8 0;").due(1680, "rows", 4, NONE).due(3, "rows", 4, 3);
    }

    // ---- promise 25

    private static void sure() {
        String text = "p10 0;p20 0;t0 1 0;t1 1 0;t1 1 0;y3 0;";
        edge(25, "SURE. OUTSIDE, NOT: no TICKETS.").town(text).refused(OUTSIDE, "sure", 0).refused(OUTSIDE, "sure", 5)
            .refused(OUTSIDE, "sure", -1).refused(OUTSIDE, "sure", MIN).refused(OUTSIDE, "sure", MAX).due(0, "sure", 1).due(7, "sure", 4);
        edge(25, "SURE. OUTSIDE, NOT: no TICKETS.").town("p10 0;").refused(NOT, "sure", 1).refused(NOT, "sure", 4);
        edge(25, "of several the first in this order").town("p10 0;").refused(OUTSIDE, "sure", 0).refused(OUTSIDE, "sure", 5);
        edge(25, "TICKETS that are in all such rows (a SET; 0 without)").town(text).times(1, "candles", 0, 11).due(1, "sure", 1)
            .due(1, "sure", 2).times(1, "candles", 1, 22).due(7, "sure", 3).due(0, "sure", 2).due(0, "sure", 1);
        edge(25, "TICKETS that are in all such rows (a SET; 0 without)").town(text).times(1, "candles", 0, 99).due(0, "rows", 4, NONE)
            .due(0, "sure", 1).due(0, "sure", 4);
        // Without CANDLES all rows fit: the only TICKET is in all of them, one of two is not.
        edge(25, "TICKETS that are in all such rows (a SET; 0 without)").town("p1 1;t0 1 0;").due(1, "sure", 1).due(1, "sure", 4)
            .town("p1 1;t0 1 0;t0 1 0;").due(0, "sure", 1).due(0, "sure", 4);
        edge(25, "TICKETS that are in all such rows (a SET; 0 without)").town("p1 1;" + "t0 1 0;".repeat(4) + "y4 0;").due(0, "sure", 3)
            .due(15, "sure", 4);
        edge(25, "of this YEAR and on").town("p1 1;t0 1 0;t0 1 0;y2 0;").due(0, "draw", 0).due(2, "sure", 1).due(2, "sure", 2)
            .due(3, "sure", 3);
        grownOld(edge(25, "AGE 999 at most")).times(1, "candles", 1, 5).due(1, "sure", 1).due(1, "sure", 4).times(1, "candles", 1, 9)
            .due(2, "sure", 4).due(0, "sure", 3);
    }

    // ---- promise 26

    private static void write() {
        String text = "p10 0;t0 1 0;t0 1 0;y2 0;";
        edge(26, "A TICKET behind THE BOOK: how many. UNKNOWN, FULL (20).").town(text).refused(UNKNOWN, "write", -1)
            .refused(UNKNOWN, "write", 2).refused(UNKNOWN, "write", MIN).refused(UNKNOWN, "write", MAX).due(1, "write", 0)
            .refused(UNKNOWN, "write", 2).due(2, "write", 1).due(NONE, "judge");
        edge(26, "A TICKET behind THE BOOK: how many. UNKNOWN, FULL (20).").town("p10 0;t0 1 0;t0 1 0;").times(19, "write", 0)
            .due(20, "write", 1).refused(FULL, "write", 0).refused(FULL, "write", 1).due(20, "told", 12).due(30, "ageBy", 0)
            .times(1, "tear").due(1, "write", 0);
        edge(26, "of several the first in this order").town(text).times(20, "write", 0).refused(UNKNOWN, "write", 2)
            .refused(UNKNOWN, "write", -1).refused(FULL, "write", 0);
        // What is OUT, or could not be, can be written: the book is judged later.
        edge(26, "A TICKET behind THE BOOK: how many").town(text).due(0, "draw", 0).due(1, "write", 0).due(2, "write", 0).due(0, "judge")
            .due(2, "told", 7).people(0, 11);
    }

    // ---- promise 27

    private static void judge() {
        String text = "p10 0;t0 1 0;t0 1 0;t0 1 0;y2 0;";
        edge(27, "WRONG; NONE.").due(NONE, "judge").town(text).due(NONE, "judge");
        edge(27, "WRONG: the first that could not be; NONE").town(text).times(1, "write", 0).due(NONE, "judge").times(1, "write", 0)
            .due(1, "judge").times(2, "write", 0).due(1, "judge");
        edge(27, "WRONG: the first that could not be; NONE").town(text).due(0, "draw", 0).times(1, "write", 0).due(0, "judge")
            .due(0, "draw", 1).due(NONE, "judge");
        // Behind K lines a YEAR ends: nine YEARS of two, one line, and the last one is wrong.
        Edge last = edge(27, "WRONG: the first that could not be; NONE").town(text);
        for (int i = 0; i < 9; i++) last.times(1, "write", 0).times(1, "write", 1);
        last.times(1, "write", 2).due(NONE, "judge").times(1, "write", 2).due(19, "judge").due(20, "told", 12);
        edge(27, "(or when none is IN THE DRUM)").town("p10 0;t0 1 0;t0 1 0;y8 0;").times(1, "write", 1).times(1, "write", 0)
            .times(1, "write", 0).times(1, "write", 1).times(1, "write", 1).due(NONE, "judge").times(1, "write", 1).due(5, "judge");
        edge(27, "(or when none is IN THE DRUM)").town("p10 0;t0 1 0;t0 1 0;y3 0;").times(1, "write", 0).times(1, "write", 1)
            .times(1, "write", 0).due(NONE, "judge").times(1, "write", 0).due(3, "judge").due(13, "ageBy", 0);
        edge(27, "tells TICKETS drawn from now").town(text).times(1, "write", 0).times(1, "write", 1).times(1, "write", 0)
            .due(NONE, "judge").times(1, "write", 0).due(3, "judge").due(0, "draw", 2).due(NONE, "judge").times(1, "undo", 1)
            .due(3, "judge").due(0, "draw", 0).due(0, "judge").due(0, "draw", 1).due(3, "judge");
        edge(27, "drawn with return").town("p10 0;t0 1 0;t0 1 0;y8 1;").times(20, "write", 0).due(NONE, "judge");
    }

    // ---- promise 28

    private static void ageBy() {
        String text = "p10 0;p20 0;t0 1 0;t1 1 0;t1 1 0;y3 0;";
        edge(28, "AGE of a PERSON behind THE BOOK (up to WRONG). UNKNOWN.").town(text).times(1, "write", 0).refused(UNKNOWN, "ageBy", -1)
            .refused(UNKNOWN, "ageBy", 2).refused(UNKNOWN, "ageBy", MIN).refused(UNKNOWN, "ageBy", MAX).due(11, "ageBy", 0)
            .due(20, "ageBy", 1);
        edge(28, "AGE of a PERSON behind THE BOOK (up to WRONG). UNKNOWN.").town(text).due(10, "ageBy", 0).due(20, "ageBy", 1)
            .due(1, "draw", 1).due(21, "ageBy", 1);
        // The WRONG line and all behind it do not count.
        edge(28, "AGE of a PERSON behind all ahead of it").town(text).times(1, "write", 1).times(1, "write", 0).times(1, "write", 1)
            .times(1, "write", 2).times(1, "write", 0).due(2, "judge").due(21, "ageBy", 1).due(11, "ageBy", 0);
        edge(28, "AGE of a PERSON behind all ahead of it").town(text).due(1, "draw", 1).times(1, "write", 1).times(1, "write", 0)
            .due(0, "judge").due(21, "ageBy", 1).due(10, "ageBy", 0);
        edge(28, "AGE of a PERSON behind all ahead of it").town("p10 0;t0 1 0;y8 1;").times(20, "write", 0).due(30, "ageBy", 0)
            .people(0, 10);
        edge(28, "who AGES by it is its PLEDGEE, else its HOLDER").town(text).times(1, "write", 0).times(1, "pawn", 0, 1)
            .due(10, "ageBy", 0).due(21, "ageBy", 1);
        edge(28, "AGE 999 at most").town(OLD).times(1, "pawn", 1, 0).times(9, "lots", 99).times(1, "lots", 8).due(998, "ageBy", 0)
            .times(1, "write", 0).due(999, "ageBy", 0).times(1, "write", 0).due(999, "ageBy", 0).people(0, 998);
    }

    // ---- promise 29

    private static void tear() {
        String text = "p1 1;".repeat(6) + "t0 1 0;t0 3 0;";
        edge(29, "how many there were (PEOPLE with CANDLES counted)").due(0, "tear").town(text).due(0, "tear").times(1, "see", 0)
            .due(1, "tear").due(0, "tear").times(1, "write", 1).due(1, "tear").times(1, "candles", 5, 5).due(1, "tear").due(0, "tear");
        edge(29, "(PEOPLE with CANDLES counted)").town(text).times(3, "candles", 0, 5).times(1, "candles", 0, 6).due(1, "tear");
        Edge full = edge(29, "how many there were").town(text).times(8, "see", 0).times(20, "write", 0);
        for (int p = 0; p < 6; p++) full.times(1, "candles", p, 9);
        full.refused(FULL, "see", 0).refused(FULL, "write", 0).refused(UNKNOWN, "candles", 6, 9).due(34, "tear").due(0, "tear");
        edge(29, "Nothing DRAWN was seen, no CANDLES, no BOOK").town(text).times(8, "see", 1).times(1, "tear").due(0, "told", 10)
            .due(333333, "belief", 1).due(0, "likeliest").due(1, "see", 1);
        edge(29, "Nothing DRAWN was seen, no CANDLES, no BOOK").town(text).times(1, "candles", 0, 99).due(0, "rows", 1, NONE)
            .times(1, "tear").due(0, "told", 11).due(2, "rows", 1, NONE).due(2, "candles", 1, 1).due(2, "rows", 1, NONE);
        edge(29, "Nothing DRAWN was seen, no CANDLES, no BOOK").town("p1 1;t0 1 0;t0 1 0;y2 0;").times(20, "write", 0).due(1, "judge")
            .times(1, "tear").due(0, "told", 12).due(NONE, "judge").due(1, "ageBy", 0).due(1, "write", 0);
        // Section 2, the images, what can be undone and THE TEXT are left alone.
        edge(29, "Nothing DRAWN was seen, no CANDLES, no BOOK").town(text).times(1, "seed", 5).times(1, "keep", 0).times(1, "lots", 3)
            .times(1, "pawn", 1, 5).letters("p7").times(1, "see", 0).due(1, "tear").due(3, "told", 13).due(2, "told", 2)
            .tickets(3, NONE, 5).people(0, 4).due(0, "undo", 3).due(1, "goBack", 0).due(5, "seed", 0);
    }
}
