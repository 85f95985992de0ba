/**
 * The boundary cases of promises 9 to 14, sentence by sentence: draws told and by lot, sales, pawns, prices, undo.
 *
 * One of them cannot be reached in the 512 calls of the document: "FULL: YEARS are above 90000" (promises 9
 * and 10). A call draws 99 times at most, a YEAR has one DRAW at least, and a text of a town with a TICKET
 * takes calls of its own: fewer than 512 * 99 = 50688 YEARS. The class keeps the sentence all the same, and
 * yearsAbove90000() shows it with more calls than the document allows.
 *
 * Nor can lots meet "NOT: no TICKETS" and "FULL" at once (promise 10): without TICKETS the YEAR stays 0.
 */
public final class EdgesDrawTest {
    private static final int NONE = Check.NONE, UNKNOWN = Check.UNKNOWN, OUTSIDE = Check.OUTSIDE, NOT = Check.NOT, FULL = Check.FULL;
    private static final int MIN = Integer.MIN_VALUE, MAX = Integer.MAX_VALUE;

    private static final Edges edges = new Edges("EdgesDrawTest", 9, 14);

    public static void main(String[] args) {
        draw();
        yearsEnd();
        cakes();
        lots();
        theLot();
        sell();
        sellAtTheBounds();
        pawn();
        price();
        undo();
        undoneWithIt();
        yearsAbove90000();
        edges.end();
    }

    private static Edge edge(int promise, String sentence) {
        return edges.of(promise, sentence);
    }

    // ---- promise 9

    private static void draw() {
        String text = "p8 0;p20 5;t0 1 0;t1 1 0;t1 1 0;y2 0;";
        edge(9, "UNKNOWN, NOT: it is OUT").town(text).refused(UNKNOWN, "draw", -1).refused(UNKNOWN, "draw", 3)
            .refused(UNKNOWN, "draw", MIN).refused(UNKNOWN, "draw", MAX).refused(UNKNOWN, "draw", 32).due(1, "draw", 2)
            .refused(UNKNOWN, "draw", 3).refused(UNKNOWN, "draw", -1);
        edge(9, "UNKNOWN, NOT: it is OUT").town(text).due(0, "draw", 0).refused(NOT, "draw", 0).people(0, 9, 20).people(1, 1, 5)
            .due(1, "told", 4).due(1, "told", 13).due(1, "draw", 1);
        edge(9, "without RETURN one that was drawn is OUT until the YEAR ends").town(text).due(0, "draw", 0).due(6, "told", 7)
            .refused(NOT, "draw", 0).due(1, "draw", 1).due(7, "told", 7).due(0, "draw", 0).refused(NOT, "draw", 0);
        edge(9, "IN THE DRUM are all at first").town("p1 1;t0 1 0;t0 1 0;y2 1;").due(3, "told", 7).due(0, "draw", 1).due(3, "told", 7)
            .due(0, "draw", 1).due(1, "told", 3).due(0, "draw", 1).people(0, 4);
        edge(9, "who AGES by it is its PLEDGEE, else its HOLDER").town("p8 0;p20 0;t0 1 0;").due(0, "draw", 0).due(NONE, "pawn", 0, 1)
            .due(1, "draw", 0).people(0, 9, 21).people(1, 1, 3).due(1, "pawn", 0, NONE).due(0, "draw", 0).people(0, 10, 21);
        edge(9, "who AGES by it is its PLEDGEE, else its HOLDER").town("p8 0;t0 1 0;").due(NONE, "pawn", 0, 0).due(0, "draw", 0)
            .people(0, 9);
    }

    private static void yearsEnd() {
        edge(9, "Behind K DRAWS").town("p1 1;t0 1 0;t0 1 0;y1 0;").due(0, "draw", 0).due(1, "told", 3).due(0, "told", 4)
            .due(3, "told", 7).due(0, "draw", 0).due(2, "told", 3);
        edge(9, "Behind K DRAWS").town("p1 1;t0 1 0;y8 1;").times(7, "draw", 0).due(0, "told", 3).due(7, "told", 4)
            .due(0, "draw", 0).due(1, "told", 3).due(0, "told", 4).due(0, "draw", 0).due(1, "told", 3).due(1, "told", 4);
        edge(9, "Behind K DRAWS").town("p1 1;t0 1 0;t0 1 0;t0 1 0;y2 0;").due(0, "draw", 2).due(0, "told", 3).due(1, "told", 4)
            .due(0, "draw", 0).due(1, "told", 3).due(0, "told", 4).due(7, "told", 7);
        edge(9, "(or when none is IN THE DRUM)").town("p1 1;t0 1 0;t0 1 0;y8 0;").due(0, "draw", 1).due(0, "told", 3)
            .due(1, "told", 4).due(1, "told", 7).due(0, "draw", 0).due(1, "told", 3).due(0, "told", 4).due(3, "told", 7);
        edge(9, "(or when none is IN THE DRUM)").town("p1 1;t0 1 0;y8 0;").times(3, "draw", 0).due(3, "told", 3).due(0, "told", 4)
            .due(1, "told", 7);
        edge(9, "(or when none is IN THE DRUM)").town("p1 1;t0 1 0;t0 1 0;y3 0;").due(0, "draw", 0).due(0, "draw", 1).due(1, "told", 3)
            .due(0, "draw", 0).due(1, "told", 3).due(1, "told", 4).refused(NOT, "draw", 0).due(0, "draw", 1).due(2, "told", 3);
        // Both at once end one YEAR, not two.
        edge(9, "(or when none is IN THE DRUM)").town("p1 1;t0 1 0;t0 1 0;y2 0;").due(0, "draw", 1).due(0, "draw", 0)
            .due(1, "told", 3).due(0, "told", 4);
        edge(9, "all are IN THE DRUM again").town("p1 1;" + "t0 1 0;".repeat(8) + "y8 0;").times(1, "draw", 7).times(1, "draw", 0)
            .due(126, "told", 7).times(1, "lots", 5).due(7, "told", 4).due(0, "told", 3).times(1, "lots", 1).due(255, "told", 7)
            .due(1, "told", 3);
    }

    private static void cakes() {
        edge(9, "AGE / 10 and 1 COINS (by the new AGE").town("p0 0;p8 0;p9 0;p98 0;p99 0;t0 1 0;t1 1 0;t2 1 0;t3 1 0;t4 1 0;")
            .times(1, "draw", 0).times(1, "draw", 1).times(1, "draw", 2).times(1, "draw", 3).times(1, "draw", 4)
            .people(0, 1, 9, 10, 99, 100).people(1, 1, 1, 2, 10, 11);
        // From AGE 99 the cakes of 354 DRAWS are 9984 COINS together: 9998, 9999 and what would be 10000.
        edge(9, "9999 at most").town("p99 14;t0 1 0;").times(3, "lots", 99).times(1, "lots", 57).people(0, 453).people(1, 9998);
        edge(9, "9999 at most").town("p99 15;t0 1 0;").times(3, "lots", 99).times(1, "lots", 57).people(1, 9999);
        edge(9, "9999 at most").town("p99 16;t0 1 0;").times(3, "lots", 99).times(1, "lots", 57).people(1, 9999);
        edge(9, "9999 at most").town("p99 15;t0 1 0;").times(3, "lots", 99).times(1, "lots", 57).due(0, "draw", 0).people(1, 9999)
            .due(0, "draw", 0).people(1, 9999).people(0, 455);
        edge(9, "AGE 999 at most").town("p99 0;t0 1 0;y1 1;").times(9, "lots", 99).times(1, "lots", 8).people(0, 998).due(0, "draw", 0)
            .people(0, 999).due(0, "draw", 0).people(0, 999).due(901, "told", 3);
        // At 999 there is a CAKE of 100 COINS still: 9999 less two PRICES of 99, and 100.
        edge(9, "AGE 999 at most").town("p99 0;p99 0;t0 9 0;t1 1 99;t1 1 99;y1 1;").times(1, "pawn", 1, 0).times(1, "pawn", 2, 0)
            .times(10, "lots", 99).people(0, 999, 99).people(1, 9999, 0).due(0, "pawn", 1, NONE).due(0, "pawn", 2, NONE)
            .due(9900, "sell", 1, 0).due(9801, "sell", 2, 0).due(0, "draw", 0).people(0, 999, 99).people(1, 9901, 198);
    }

    // ---- promise 10

    private static void lots() {
        String text = "p0 0;t0 1 0;t0 1 0;y1 1;";
        edge(10, "n DRAWS BY LOT (1 .. 99)").town(text).refused(OUTSIDE, "lots", 0).refused(OUTSIDE, "lots", 100)
            .refused(OUTSIDE, "lots", -1).refused(OUTSIDE, "lots", MIN).refused(OUTSIDE, "lots", MAX).due(0, "lots", 1)
            .people(0, 1).due(1, "told", 3).due(12345, "seed", 0);
        edge(10, "n DRAWS BY LOT (1 .. 99)").town(text).times(1, "lots", 99).people(0, 99).due(99, "told", 3).due(30, "told", 13);
        edge(10, "NOT: no TICKETS").town("p1 1;y1 1;").refused(NOT, "lots", 1).refused(NOT, "lots", 99).due(0, "seed", 0);
        edge(10, "of several the first in this order").town("p1 1;").refused(OUTSIDE, "lots", 0).refused(OUTSIDE, "lots", 100)
            .refused(NOT, "lots", 1);
        edge(10, "the latest TICKET").town("p0 0;t0 1 0;t0 2 0;t0 3 0;").due(1, "lots", 4).due(1449466924, "seed", 0)
            .due(0, "lots", 1).due(0, "lots", 1).due(2, "lots", 1).due(1, "lots", 1).due(1449466924, "seed", 0).people(0, 8);
        edge(10, "the latest TICKET").town("p0 0;t0 9 0;y8 0;").due(0, "lots", 99).people(0, 99).due(99, "told", 3);
        // A YEAR that ends in the midst has all IN THE DRUM again for the next lot: 20 DRAWS in YEARS of two.
        edge(10, "all are IN THE DRUM again").town("p0 0;t0 1 0;t0 1 0;y8 0;").times(1, "lots", 21).due(10, "told", 3)
            .due(1, "told", 4).people(0, 21);
    }

    private static void theLot() {
        String text = "p0 0;t0 9 0;t0 5 0;t0 1 0;y3 0;";
        edge(10, "till the LOT would be below 0").town(text).times(1, "seed", 0).due(0, "lots", 1);
        edge(10, "till the LOT would be below 0").town(text).times(1, "seed", 1).due(0, "lots", 1);
        edge(10, "till the LOT would be below 0").town(text).times(1, "seed", 16).due(1, "lots", 1);
        edge(10, "till the LOT would be below 0").town(text).times(1, "seed", 10).due(1, "lots", 1);
        edge(10, "till the LOT would be below 0").town(text).times(1, "seed", 39).due(2, "lots", 1);
        // TICKET 1 is OUT: LOTS of 10 are 8 (of TICKET 0) and 9 (of TICKET 2).
        edge(10, "TICKET by TICKET (rising, of those IN THE DRUM)").town(text).due(0, "draw", 1).times(1, "seed", 1)
            .due(0, "lots", 1);
        edge(10, "TICKET by TICKET (rising, of those IN THE DRUM)").town(text).due(0, "draw", 1).times(1, "seed", 16)
            .due(2, "lots", 1);
        edge(10, "TICKET by TICKET (rising, of those IN THE DRUM)").town(text).due(0, "draw", 0).due(0, "draw", 1)
            .due(2, "lots", 1).due(1, "told", 3);
        edge(10, "left over by 2 to the 31").town(text).due(0, "seed", MAX).due(2, "lots", 1).due(1043980748, "seed", 0);
        edge(10, "left over by 2 to the 31").town(text).times(1, "lots", 1).due(12345, "seed", 12345).times(1, "lots", 1)
            .due(1406932606, "seed", 0);
        edge(10, "each draw of it it becomes it times 1103515245 and 12345").town(text).due(0, "seed", 5).due(0, "draw", 0)
            .due(5, "seed", 5).times(1, "evens", 20, 0).due(5, "seed", 5);
    }

    // ---- promise 11

    private static void sell() {
        String text = "p20 10;p30 0;p40 3;t0 1 4;t1 1 10;t2 1 11;";
        edge(11, "UNKNOWN, NOT: it holds it, it is PAWNED, not so many COINS").town(text).refused(UNKNOWN, "sell", -1, 0)
            .refused(UNKNOWN, "sell", 3, 0).refused(UNKNOWN, "sell", MIN, 0).refused(UNKNOWN, "sell", MAX, 0)
            .refused(UNKNOWN, "sell", 1, NONE).refused(UNKNOWN, "sell", 1, 3).refused(UNKNOWN, "sell", 1, MIN)
            .refused(UNKNOWN, "sell", 1, MAX).refused(UNKNOWN, "sell", 3, 3).due(0, "sell", 1, 0);
        edge(11, "NOT: it holds it").town(text).refused(NOT, "sell", 0, 0).times(1, "price", 0, 0).refused(NOT, "sell", 0, 0)
            .people(1, 10, 0, 3);
        edge(11, "it is PAWNED").town(text).times(1, "pawn", 1, 2).refused(NOT, "sell", 1, 0).times(1, "price", 1, 0)
            .refused(NOT, "sell", 1, 0).refused(NOT, "sell", 1, 2).due(2, "pawn", 1, NONE).due(10, "sell", 1, 0);
        edge(11, "it is PAWNED").town(text).times(1, "pawn", 1, 1).refused(NOT, "sell", 1, 0).tickets(0, 0, 1, 2);
        edge(11, "not so many COINS").town(text).refused(NOT, "sell", 2, 0).refused(NOT, "sell", 0, 1).refused(NOT, "sell", 0, 2)
            .people(1, 10, 0, 3).tickets(0, 0, 1, 2);
        edge(11, "not so many COINS").town(text).due(0, "sell", 1, 0).people(1, 0, 10, 3).tickets(0, 0, 0, 2);
        edge(11, "not so many COINS").town(text).times(1, "price", 2, 0).due(0, "sell", 2, 1).people(1, 10, 0, 3)
            .tickets(0, 0, 1, 1);
        edge(11, "of several the first in this order").town(text).times(1, "pawn", 2, 0).refused(UNKNOWN, "sell", 2, 3)
            .refused(UNKNOWN, "sell", 2, NONE).refused(NOT, "sell", 2, 0);
        // A TICKET that is OUT can be sold, and stays OUT; who has bought AGES by it later.
        edge(11, "A TICKET is sold to a PERSON at its PRICE").town("p20 10;p30 5;t0 1 5;t0 1 0;y2 0;").due(0, "draw", 0)
            .due(0, "sell", 0, 1).people(1, 18, 0).due(2, "told", 7).refused(NOT, "draw", 0).due(0, "draw", 1).due(1, "draw", 0);
    }

    private static void sellAtTheBounds() {
        // 354 DRAWS from AGE 99 on bring 9984 COINS: the seller has 9989 of them.
        String text = "p99 5;p1 99;t0 1 0;t0 1 0;";
        edge(11, "(COINS of both change; 9999 at most)").town(text).times(3, "lots", 99).times(1, "lots", 57).people(1, 9989, 99)
            .times(1, "price", 1, 9).due(90, "sell", 1, 1).people(1, 9998, 90);
        edge(11, "(COINS of both change; 9999 at most)").town(text).times(3, "lots", 99).times(1, "lots", 57)
            .times(1, "price", 1, 10).due(89, "sell", 1, 1).people(1, 9999, 89);
        edge(11, "(COINS of both change; 9999 at most)").town(text).times(3, "lots", 99).times(1, "lots", 57)
            .times(1, "price", 1, 11).due(88, "sell", 1, 1).people(1, 9999, 88);
        edge(11, "(COINS of both change; 9999 at most)").town(text).times(3, "lots", 99).times(1, "lots", 57)
            .times(1, "price", 1, 99).due(0, "sell", 1, 1).people(1, 9999, 0).due(9900, "sell", 1, 0).people(1, 9900, 99);
    }

    // ---- promises 12 and 13

    private static void pawn() {
        String text = "p20 10;p30 0;p40 3;t0 1 4;t1 1 10;y2 0;";
        edge(12, "who was PLEDGEE (NONE). UNKNOWN.").town(text).refused(UNKNOWN, "pawn", -1, 0).refused(UNKNOWN, "pawn", 2, 0)
            .refused(UNKNOWN, "pawn", MIN, NONE).refused(UNKNOWN, "pawn", MAX, NONE).refused(UNKNOWN, "pawn", -1, NONE)
            .refused(UNKNOWN, "pawn", 0, 3).refused(UNKNOWN, "pawn", 0, -2).refused(UNKNOWN, "pawn", 0, MIN)
            .refused(UNKNOWN, "pawn", 0, MAX).refused(UNKNOWN, "pawn", 2, 3).tickets(3, NONE, NONE);
        edge(12, "who was PLEDGEE (NONE). UNKNOWN.").town(text).times(1, "pawn", 0, 1).refused(UNKNOWN, "pawn", 0, 3)
            .refused(UNKNOWN, "pawn", 0, -2).tickets(3, 1, NONE).due(1, "pawn", 0, 2).due(2, "pawn", 0, 2).due(2, "pawn", 0, NONE)
            .due(NONE, "pawn", 0, NONE).tickets(3, NONE, NONE);
        edge(12, "A TICKET is PAWNED to a PERSON, or redeemed (NONE)").town(text).due(NONE, "pawn", 0, 0).tickets(3, 0, NONE)
            .people(4, 1, 2, 0).refused(NOT, "sell", 0, 2).due(0, "pawn", 0, NONE);
        edge(12, "A TICKET is PAWNED to a PERSON, or redeemed (NONE)").town(text).due(0, "draw", 0).due(NONE, "pawn", 0, 2)
            .refused(NOT, "draw", 0).due(1, "draw", 1).due(2, "draw", 0).people(0, 21, 31, 41);
        edge(12, "A TICKET is PAWNED to a PERSON, or redeemed (NONE)").town(text).due(NONE, "pawn", 0, 2).people(1, 10, 0, 3)
            .tickets(0, 0, 1).tickets(2, 4, 10);
    }

    private static void price() {
        String text = "p20 10;p30 0;t0 1 4;t1 1 99;";
        edge(13, "UNKNOWN, OUTSIDE.").town(text).refused(UNKNOWN, "price", -1, 5).refused(UNKNOWN, "price", 2, 5)
            .refused(UNKNOWN, "price", MIN, 5).refused(UNKNOWN, "price", MAX, 5).tickets(2, 4, 99);
        edge(13, "A PRICE becomes m (0 .. 99): what it was").town(text).refused(OUTSIDE, "price", 0, -1)
            .refused(OUTSIDE, "price", 0, 100).refused(OUTSIDE, "price", 0, MIN).refused(OUTSIDE, "price", 0, MAX)
            .due(4, "price", 0, 99).due(99, "price", 0, 0).due(0, "price", 0, 0).tickets(2, 0, 99);
        edge(13, "of several the first in this order").town(text).refused(UNKNOWN, "price", 2, 100)
            .refused(UNKNOWN, "price", -1, -1).refused(OUTSIDE, "price", 1, 100);
        // What is PAWNED, or OUT, has a PRICE all the same.
        edge(13, "A PRICE becomes m (0 .. 99): what it was").town("p20 10;p30 0;t0 1 4;t1 1 99;y2 0;").times(1, "pawn", 0, 1)
            .due(4, "price", 0, 7).due(1, "draw", 0).due(7, "price", 0, 8).tickets(2, 8, 99).people(1, 10, 4);
    }

    // ---- promise 14
    private static void undo() {
        String text = "p0 0;t0 1 0;y1 1;";
        edge(14, "The n latest DRAWS (1 .. 30) are undone").town(text).times(1, "lots", 40).refused(OUTSIDE, "undo", 0)
            .refused(OUTSIDE, "undo", 31).refused(OUTSIDE, "undo", -1).refused(OUTSIDE, "undo", MIN).refused(OUTSIDE, "undo", MAX)
            .due(40, "told", 3).due(39, "undo", 1).due(29, "told", 13);
        edge(14, "The n latest DRAWS (1 .. 30) are undone").town(text).times(1, "lots", 30).due(0, "undo", 30).people(0, 0)
            .people(1, 0).due(0, "told", 13);
        edge(14, "NOT: not so many").town(text).refused(NOT, "undo", 1).refused(NOT, "undo", 30).times(1, "lots", 2)
            .refused(NOT, "undo", 3).refused(NOT, "undo", 30).due(0, "undo", 2).refused(NOT, "undo", 1);
        edge(14, "of several the first in this order").town(text).refused(OUTSIDE, "undo", 0).refused(OUTSIDE, "undo", 31)
            .refused(NOT, "undo", 1);
        edge(14, "(30 at most are kept)").town(text).times(1, "lots", 31).due(30, "told", 13).due(1, "undo", 30).people(0, 1)
            .refused(NOT, "undo", 1);
        edge(14, "(30 at most are kept)").town(text).times(1, "lots", 99).due(84, "undo", 15).due(69, "undo", 15).people(0, 69)
            .refused(NOT, "undo", 1).times(1, "lots", 10).due(10, "told", 13).refused(NOT, "undo", 11).due(69, "undo", 10)
            .people(0, 69).times(1, "lots", 45).due(84, "undo", 30).refused(NOT, "undo", 1);
        edge(14, "(30 at most are kept)").town(text).times(1, "lots", 30).times(30, "undo", 1).people(0, 0).due(0, "told", 3)
            .refused(NOT, "undo", 1);
        edge(14, "the latest DRAWS since the text or IMAGE").town(text).times(1, "lots", 5).times(1, "keep", 0)
            .refused(NOT, "undo", 1).times(1, "lots", 2).refused(NOT, "undo", 3).due(5, "undo", 2).refused(NOT, "undo", 1);
        edge(14, "the latest DRAWS since the text or IMAGE").town(text).times(1, "keep", 1).times(1, "lots", 5).times(1, "goBack", 1)
            .refused(NOT, "undo", 1).times(1, "lots", 1).due(0, "undo", 1).refused(NOT, "undo", 1);
        edge(14, "the latest DRAWS since the text or IMAGE").town(text).times(1, "lots", 5).town(text).refused(NOT, "undo", 1);
    }

    private static void undoneWithIt() {
        String text = "p19 50;p29 50;t0 1 4;t1 1 5;y2 0;";
        edge(14, "with all that was done since (COINS, PRICES too)").town(text).due(0, "draw", 0).due(46, "sell", 0, 1)
            .times(1, "pawn", 1, 0).times(1, "price", 1, 77).people(1, 57, 46).due(0, "undo", 1).people(0, 19, 29).people(1, 50, 50)
            .tickets(0, 0, 1).tickets(2, 4, 5).tickets(3, NONE, NONE).due(3, "told", 7).due(0, "told", 4);
        // What was done ahead of the DRAW stays.
        edge(14, "with all that was done since (COINS, PRICES too)").town(text).due(46, "sell", 0, 1).times(1, "pawn", 1, 0)
            .times(1, "price", 1, 77).due(1, "draw", 0).due(0, "undo", 1).people(0, 19, 29).people(1, 54, 46).tickets(0, 1, 1)
            .tickets(2, 4, 77).tickets(3, NONE, 0);
        // Between two DRAWS: one undone leaves it, two do not.
        edge(14, "with all that was done since (COINS, PRICES too)").town(text).due(0, "draw", 0).times(1, "price", 0, 9)
            .due(1, "draw", 1).times(1, "price", 0, 8).due(0, "undo", 1).tickets(2, 9, 5).due(2, "told", 7).due(1, "told", 4)
            .due(0, "undo", 1).tickets(2, 4, 5).due(3, "told", 7).due(0, "told", 4);
        edge(14, "The n latest DRAWS (1 .. 30) are undone: YEARS").town(text).due(0, "draw", 0).due(1, "draw", 1).due(0, "draw", 0)
            .due(1, "told", 3).due(1, "undo", 1).due(3, "told", 7).due(0, "undo", 1).due(2, "told", 7).refused(NOT, "draw", 0)
            .due(1, "draw", 1).due(1, "told", 3);
        edge(14, "THE SEED stays").town(text).times(1, "lots", 4).due(0, "undo", 4).due(1449466924, "seed", 7).times(1, "draw", 0)
            .due(7, "seed", 9).due(0, "undo", 1).due(9, "seed", 0);
        // What was seen since, and THE TEXT, are no part of section 2: they stay (NOTES.md tells this reading).
        edge(14, "with all that was done since (COINS, PRICES too)").town(text).due(0, "draw", 0).due(1, "see", 0).due(2, "candles", 1, 30)
            .due(1, "write", 1).letters("p1 1;").due(0, "undo", 1).due(1, "told", 10).due(2, "told", 11).due(1, "told", 12)
            .due(5, "told", 2).due(3, "tear").due(1, "town");
        // At AGE 999 and 9999 COINS a DRAW changes the YEAR alone, and that is undone.
        edge(14, "The n latest DRAWS (1 .. 30) are undone: YEARS").town("p99 0;t0 1 0;y1 1;").times(10, "lots", 99).due(0, "draw", 0)
            .due(990, "undo", 1).people(0, 999).people(1, 9999);
    }

    // ---- beyond the 512 calls

    private static void yearsAbove90000() {
        String sentence = "FULL: YEARS are above 90000";
        Check check = edges.check();
        BirthdayLot lot = Check.townOf("p0 0;t0 1 0;y1 1;");
        for (int i = 0; i < 909; i++) lot.lots(99);
        check.due(sentence + ": 90000 is not above", lot.lots(9), 0);
        check.due(sentence + ": told(3)", lot.told(3), 90000);
        check.due(sentence + ": draw(0) at 90000", lot.draw(0), 0);
        check.due(sentence + ": told(3)", lot.told(3), 90001);
        check.due(sentence + ": draw(0) at 90001", lot.draw(0), FULL);
        int seed = lot.seed(3);
        check.due(sentence + ": lots(1) at 90001", lot.lots(1), FULL);
        check.due(sentence + ": lots(99) at 90001", lot.lots(99), FULL);
        check.due(sentence + ": the seed is as it was", lot.seed(seed), 3);
        check.due(sentence + ": OUTSIDE is ahead of it", lot.lots(0), OUTSIDE);
        check.due(sentence + ": OUTSIDE is ahead of it", lot.lots(100), OUTSIDE);
        check.due(sentence + ": UNKNOWN is ahead of it", lot.draw(1), UNKNOWN);
        check.due(sentence + ": nothing was drawn", lot.told(3), 90001);
        check.due(sentence + ": undo(1)", lot.undo(1), 90000);
        check.due(sentence + ": lots(99) at 90000", lot.lots(99), 0);
        check.due(sentence + ": told(3)", lot.told(3), 90099);
        check.due(sentence + ": lots(1) at 90099", lot.lots(1), FULL);
        BirthdayLot out = Check.townOf("p0 0;t0 1 0;t0 1 0;y2 0;");
        for (int i = 0; i < 1819; i++) out.lots(99);
        check.due(sentence + ": told(3)", out.told(3), 90040);
        check.due(sentence + ": told(4)", out.told(4), 1);
        int drawn = out.told(7) == 2 ? 0 : 1;
        check.due(sentence + ": NOT is ahead of it", out.draw(drawn), NOT);
        check.due(sentence + ": draw of the other", out.draw(1 - drawn), FULL);
    }
}
