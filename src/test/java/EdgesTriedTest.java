/** The boundary cases of promises 15 to 19, sentence by sentence: odds, never, buy, evens, couples. */
public final class EdgesTriedTest {
    private static final int NONE = Check.NONE, UNKNOWN = Check.UNKNOWN, OUTSIDE = Check.OUTSIDE, NOT = Check.NOT;
    private static final int MIN = Integer.MIN_VALUE, MAX = Integer.MAX_VALUE, BILLION = 1000000000;

    private static final Edges edges = new Edges("EdgesTriedTest", 15, 19);

    public static void main(String[] args) {
        odds();
        oddsWithReturn();
        oddsWithout();
        never();
        buy();
        buyWhichSet();
        buyWhatIsForSale();
        evens();
        evensByWhich();
        couples();
        couplesWithWhom();
        nothingChanges();
        edges.end();
    }

    private static Edge edge(int promise, String sentence) {
        return edges.of(promise, sentence);
    }

    // ---- promise 15

    private static void odds() {
        String text = "p10 0;p10 0;t0 1 0;t1 1 0;y8 1;";
        edge(15, "ODDS. UNKNOWN, OUTSIDE.").town(text).refused(UNKNOWN, "odds", -1, 0).refused(UNKNOWN, "odds", 2, 0)
            .refused(UNKNOWN, "odds", MIN, 0).refused(UNKNOWN, "odds", MAX, 0).due(BILLION, "odds", 1, 0);
        edge(15, "v birthdays or more in the REST (0 .. 8)").town(text).refused(OUTSIDE, "odds", 0, -1).refused(OUTSIDE, "odds", 0, 9)
            .refused(OUTSIDE, "odds", 0, MIN).refused(OUTSIDE, "odds", 0, MAX).due(BILLION, "odds", 0, 0).due(3906250, "odds", 0, 8);
        edge(15, "of several the first in this order").town(text).refused(UNKNOWN, "odds", 2, 9).refused(UNKNOWN, "odds", -1, -1);
        edge(15, "REST: DRAWS that are left of this YEAR").town("p10 0;p10 0;t0 1 0;t1 1 0;y3 1;").due(125000000, "odds", 0, 3)
            .due(0, "odds", 0, 4).due(1, "draw", 1).due(0, "odds", 0, 3).due(250000000, "odds", 0, 2).due(1, "draw", 1)
            .due(0, "odds", 0, 2).due(500000000, "odds", 0, 1).due(1, "draw", 1).due(125000000, "odds", 0, 3);
        // Without TICKETS nothing is drawn: no birthday is sure, one cannot be.
        edge(15, "ODDS that a PERSON has v birthdays or more").town("p10 0;y8 1;").due(BILLION, "odds", 0, 0).due(0, "odds", 0, 1)
            .due(0, "odds", 0, 8);
        edge(15, "ODDS that a PERSON has v birthdays or more").town("p10 0;y8 0;").due(BILLION, "odds", 0, 0).due(0, "odds", 0, 1)
            .due(0, "odds", 0, 8);
    }

    private static void oddsWithReturn() {
        edge(15, "/ all WEIGHT (cut) has one more, the rest not").town("p10 0;p10 0;t0 1 0;t1 2 0;y1 1;").due(333333333, "odds", 0, 1)
            .due(BILLION, "odds", 0, 0).due(666666666, "odds", 1, 1).due(BILLION, "odds", 1, 0);
        // 333333333 and 666666667; then 111111111 of the former and 222222222 of the latter.
        edge(15, "/ all WEIGHT (cut) has one more, the rest not").town("p10 0;p10 0;t0 1 0;t1 2 0;y2 1;").due(111111111, "odds", 0, 2)
            .due(555555555, "odds", 0, 1).due(BILLION, "odds", 0, 0);
        // 1 of 64, eight times: cut to nothing from six birthdays on.
        edge(15, "/ all WEIGHT (cut) has one more, the rest not").town("p10 0;p10 0;t0 1 0;" + "t1 9 0;".repeat(7) + "y8 1;")
            .due(BILLION, "odds", 0, 0).due(118373562, "odds", 0, 1).due(48, "odds", 0, 5).due(0, "odds", 0, 6).due(0, "odds", 0, 8);
        edge(15, "the WEIGHT of TICKETS by which it AGES").town("p10 0;p10 0;t0 9 0;y8 1;").due(BILLION, "odds", 0, 8)
            .due(0, "odds", 1, 1).due(BILLION, "odds", 1, 0);
        edge(15, "the WEIGHT of TICKETS by which it AGES").town("p10 0;p10 0;t0 9 0;t0 9 0;y8 1;").times(1, "pawn", 0, 1)
            .times(1, "pawn", 1, 1).due(0, "odds", 0, 1).due(BILLION, "odds", 1, 8);
    }

    private static void oddsWithout() {
        edge(15, "/ the WEIGHT in the SET (cut)").town("p10 0;p10 0;t0 1 0;t1 2 0;y1 0;").due(333333333, "odds", 0, 1)
            .due(666666666, "odds", 1, 1).due(999999999, "odds", 0, 0).due(999999999, "odds", 1, 0);
        edge(15, "by SETS of TICKETS IN THE DRUM").town("p10 0;p10 0;t0 1 0;t1 1 0;y2 0;").due(BILLION, "odds", 0, 1)
            .due(0, "odds", 0, 2).due(0, "draw", 0).due(0, "odds", 0, 1).due(BILLION, "odds", 0, 0).due(BILLION, "odds", 1, 1)
            .due(0, "odds", 1, 2);
        // The YEAR ends when none is IN THE DRUM: two DRAWS of eight, then one.
        edge(15, "(or when none is IN THE DRUM)").town("p10 0;p10 0;t0 1 0;t1 1 0;y8 0;").due(BILLION, "odds", 0, 0)
            .due(BILLION, "odds", 0, 1).due(0, "odds", 0, 2).due(1, "draw", 1).due(BILLION, "odds", 0, 1).due(0, "odds", 1, 1)
            .due(BILLION, "odds", 1, 0);
        edge(15, "by SETS of TICKETS IN THE DRUM").town("p10 0;p10 0;" + "t0 9 0;".repeat(8) + "y8 0;").due(999999840, "odds", 0, 0)
            .due(999999840, "odds", 0, 8).due(0, "odds", 1, 1).due(999999840, "odds", 1, 0);
        edge(15, "by SETS of TICKETS IN THE DRUM").town("p10 0;p10 0;t0 9 0;" + "t1 9 0;".repeat(7) + "y7 0;")
            .due(874999860, "odds", 0, 1).due(0, "odds", 0, 2).due(999999840, "odds", 1, 6).due(0, "odds", 1, 8);
        // Four of eight can be left in 70 ways, more SETS than any other number of DRAWS leaves.
        edge(15, "by SETS of TICKETS IN THE DRUM").town("p10 0;p10 0;" + "t0 1 0;".repeat(4) + "t1 1 0;".repeat(4) + "y4 0;")
            .due(999999840, "odds", 0, 0).due(985714128, "odds", 0, 1).due(757142736, "odds", 0, 2).due(242857104, "odds", 0, 3)
            .due(14285712, "odds", 0, 4).due(0, "odds", 0, 5).due(14285712, "odds", 1, 4);
        edge(15, "by SETS of TICKETS IN THE DRUM").town("p10 0;p10 0;t0 1 0;" + "t1 9 0;".repeat(7) + "y8 0;")
            .due(999999581, "odds", 0, 1).due(999999581, "odds", 1, 7).due(0, "odds", 1, 8);
    }

    // ---- promise 16

    private static void never() {
        String text = "p10 0;p10 0;p10 0;t0 1 0;t1 1 0;y1 1;";
        edge(16, "NEVER. UNKNOWN, OUTSIDE.").town(text).refused(UNKNOWN, "never", -1, 1).refused(UNKNOWN, "never", 3, 1)
            .refused(UNKNOWN, "never", MIN, 1).refused(UNKNOWN, "never", MAX, 1).due(BILLION, "never", 2, 1);
        edge(16, "n whole YEARS to come (1 .. 99; behind this one)").town(text).refused(OUTSIDE, "never", 0, 0)
            .refused(OUTSIDE, "never", 0, 100).refused(OUTSIDE, "never", 0, -1).refused(OUTSIDE, "never", 0, MIN)
            .refused(OUTSIDE, "never", 0, MAX).due(500000000, "never", 0, 1).due(BILLION, "never", 2, 99);
        edge(16, "of several the first in this order").town(text).refused(UNKNOWN, "never", 3, 0).refused(UNKNOWN, "never", -1, 100);
        edge(16, "n times, / BILLION, cut each").town(text).due(250000000, "never", 0, 2).due(1, "never", 0, 29)
            .due(0, "never", 0, 30).due(0, "never", 0, 99);
        edge(16, "n times, / BILLION, cut each").town("p10 0;p10 0;t0 1 0;t1 6 0;y1 1;").due(857142858, "never", 0, 1)
            .due(734693879, "never", 0, 2).due(629737611, "never", 0, 3).due(233, "never", 0, 99);
        edge(16, "(a BILLION less ODDS of 1 or more, all IN THE DRUM, K DRAWS)").town("p10 0;t0 1 0;t0 2 0;t0 4 0;y1 0;")
            .due(2, "never", 0, 1).due(0, "never", 0, 2);
        edge(16, "(a BILLION less ODDS of 1 or more, all IN THE DRUM, K DRAWS)").town("p10 0;p10 0;t0 1 0;y8 1;").due(0, "never", 0, 1)
            .due(BILLION, "never", 1, 1);
        // What is OUT now, or drawn of this YEAR already, is nothing to the YEARS behind it.
        edge(16, "n whole YEARS to come (1 .. 99; behind this one)").town("p10 0;p10 0;t0 1 0;t1 1 0;t1 2 0;y2 0;")
            .due(416666668, "never", 0, 1).due(0, "draw", 0).due(416666668, "never", 0, 1).due(1, "draw", 2)
            .due(416666668, "never", 0, 1);
        edge(16, "n whole YEARS to come (1 .. 99; behind this one)").town("p10 0;p10 0;t0 1 0;t1 1 0;y2 1;").due(250000000, "never", 0, 1)
            .due(0, "draw", 0).due(250000000, "never", 0, 1);
        edge(16, "who AGES by it is its PLEDGEE, else its HOLDER").town("p10 0;p10 0;t0 1 0;t1 1 0;y1 1;").times(1, "pawn", 0, 1)
            .due(BILLION, "never", 0, 99).due(0, "never", 1, 1);
        edge(16, "ODDS of none in one YEAR").town("p10 0;y8 0;").due(BILLION, "never", 0, 1).due(BILLION, "never", 0, 99)
            .town("p10 0;y8 1;").due(BILLION, "never", 0, 99);
    }

    // ---- promise 17

    private static void buy() {
        String text = "p17 10;p30 0;t0 1 1;t1 1 4;t1 2 6;t1 4 11;y2 1;";
        edge(17, "NONE. UNKNOWN, OUTSIDE.").town(text).refused(UNKNOWN, "buy", -1, 1, 50, 0).refused(UNKNOWN, "buy", 2, 1, 50, 0)
            .refused(UNKNOWN, "buy", MIN, 1, 50, 0).refused(UNKNOWN, "buy", MAX, 1, 50, 0).due(0, "buy", 1, 1, 50, 0);
        edge(17, "BUY (right 0 .. 3): what = 0 PRICE, 1 which; NONE").town(text).refused(OUTSIDE, "buy", 0, -1, 50, 0)
            .refused(OUTSIDE, "buy", 0, 4, 50, 0).refused(OUTSIDE, "buy", 0, MIN, 50, 0).refused(OUTSIDE, "buy", 0, MAX, 50, 0)
            .refused(OUTSIDE, "buy", 0, 1, 50, -1).refused(OUTSIDE, "buy", 0, 1, 50, 2).refused(OUTSIDE, "buy", 0, 1, 50, MIN)
            .refused(OUTSIDE, "buy", 0, 1, 50, MAX).due(0, "buy", 0, 0, 50, 0).due(NONE, "buy", 0, 3, 50, 1);
        edge(17, "x of a hundred or more (0 .. 100; BILLION / 100 times x)").town(text).refused(OUTSIDE, "buy", 0, 1, -1, 0)
            .refused(OUTSIDE, "buy", 0, 1, 101, 0).refused(OUTSIDE, "buy", 0, 1, MIN, 0).refused(OUTSIDE, "buy", 0, 1, MAX, 0)
            .due(0, "buy", 0, 1, 0, 0).due(0, "buy", 0, 1, 0, 1).due(NONE, "buy", 0, 1, 100, 0).due(NONE, "buy", 0, 1, 100, 1);
        edge(17, "of several the first in this order").town(text).refused(UNKNOWN, "buy", 2, 4, 101, 2)
            .refused(UNKNOWN, "buy", -1, -1, -1, -1).refused(OUTSIDE, "buy", 0, 4, 101, 2);
        // What it has already is also refused, if a number is out of its bounds.
        edge(17, "NONE. UNKNOWN, OUTSIDE.").town(text).refused(OUTSIDE, "buy", 0, 0, 101, 0).refused(OUTSIDE, "buy", 0, 0, 0, 2);
        // Half the WEIGHT in one DRAW is 50 of a hundred, in both of two 25; all of it is a hundred.
        edge(17, "x of a hundred or more").town("p17 0;p16 0;t0 1 0;t1 1 99;y1 1;").due(0, "buy", 0, 1, 50, 1).due(NONE, "buy", 0, 1, 51, 1);
        edge(17, "x of a hundred or more").town("p16 0;p16 0;t0 1 0;t1 1 99;y2 1;").due(0, "buy", 0, 1, 25, 1).due(NONE, "buy", 0, 1, 26, 1);
        edge(17, "x of a hundred or more").town("p17 0;t0 1 0;y1 1;").due(0, "buy", 0, 1, 100, 0).due(0, "buy", 0, 1, 100, 1);
        // Cut ODDS do not make a hundred.
        edge(17, "x of a hundred or more").town("p17 99;p1 0;t0 1 0;t1 2 1;t1 4 1;y1 0;").due(NONE, "buy", 0, 1, 100, 1)
            .due(6, "buy", 0, 1, 99, 1).due(2, "buy", 0, 1, 99, 0);
        edge(17, "(the empty one, if it has it)").town("p18 99;p17 99;t0 1 0;y1 0;").due(0, "buy", 0, 1, 100, 0).due(0, "buy", 0, 1, 100, 1)
            .due(NONE, "buy", 1, 3, 1, 1);
        edge(17, "(the empty one, if it has it)").town("p18 0;p17 0;y8 1;").due(0, "buy", 0, 1, 100, 1).due(NONE, "buy", 1, 1, 1, 1)
            .due(0, "buy", 1, 1, 0, 1).due(0, "buy", 1, 3, 0, 0);
        // Who has it has it, though the cut ODDS of 0 birthdays are below a hundred.
        edge(17, "(the empty one, if it has it)").town("p18 9;p20 9;t0 1 1;t1 2 2;y1 0;").due(999999999, "odds", 0, 0)
            .due(0, "buy", 0, 1, 100, 0).due(0, "buy", 0, 1, 100, 1).due(0, "buy", 1, 1, 100, 0).due(0, "buy", 1, 1, 100, 1);
        edge(17, "(the empty one, if it has it)").town("p0 0;r0 0 0 0;").due(0, "buy", 0, 0, 100, 0).due(0, "buy", 0, 3, 100, 1);
        // More birthdays than the REST has, and than any YEAR: none of a hundred is likely, 0 always is.
        edge(17, "a RIGHT that it has not yet").town("p15 99;t0 1 0;y2 1;").due(NONE, "buy", 0, 1, 1, 0).due(0, "buy", 0, 1, 0, 0);
        edge(17, "a RIGHT that it has not yet").town("p0 99;t0 1 0;y8 1;r8 9 99 99;").due(0, "buy", 0, 0, 100, 1)
            .due(NONE, "buy", 0, 1, 1, 0).due(NONE, "buy", 0, 3, 1, 1).due(0, "buy", 0, 3, 0, 1);
        edge(17, "ODDS that it has in the REST a RIGHT").town("p16 9;p1 0;t0 1 0;y2 1;").due(0, "buy", 0, 1, 100, 1).due(0, "draw", 0)
            .due(0, "buy", 0, 1, 100, 1).times(1, "undo", 1).times(1, "pawn", 0, 1).due(1, "draw", 0).times(1, "pawn", 0, NONE)
            .due(NONE, "buy", 0, 1, 1, 1);
    }

    private static void buyWhichSet() {
        // PRICES 4 and 6 are 10 together: 10 COINS do, 9 do not.
        edge(17, "(PRICES together its COINS at most)").town("p17 10;p1 0;t1 1 4;t1 1 6;y1 1;").due(10, "buy", 0, 1, 51, 0)
            .due(3, "buy", 0, 1, 51, 1);
        edge(17, "(PRICES together its COINS at most)").town("p17 9;p1 0;t1 1 4;t1 1 6;y1 1;").due(NONE, "buy", 0, 1, 51, 0)
            .due(1, "buy", 0, 1, 50, 1);
        edge(17, "(PRICES together its COINS at most)").town("p17 0;p1 0;t1 1 0;t1 1 1;y1 1;").due(0, "buy", 0, 1, 50, 0)
            .due(1, "buy", 0, 1, 50, 1).due(NONE, "buy", 0, 1, 51, 1);
        // 33 of a hundred: {0, 1} at 3, {2} at 3, {3} at 3: {2} is of the fewest, and the lesser SET.
        String text = "p17 99;p30 0;t1 1 1;t1 1 2;t1 2 3;t1 2 3;y1 0;";
        edge(17, "of least PRICE, of like ones fewest, then the least SET").town(text).due(3, "buy", 0, 1, 33, 0).due(4, "buy", 0, 1, 33, 1);
        edge(17, "of least PRICE").town(text).times(1, "price", 2, 4).due(8, "buy", 0, 1, 33, 1).times(1, "price", 3, 4)
            .due(3, "buy", 0, 1, 33, 1).due(3, "buy", 0, 1, 33, 0);
        edge(17, "of like ones fewest").town(text).times(1, "price", 2, 9).due(8, "buy", 0, 1, 33, 1);
        edge(17, "then the least SET").town("p17 99;p30 0;t1 1 5;t1 1 5;t1 1 5;y1 1;").due(1, "buy", 0, 1, 33, 1)
            .due(3, "buy", 0, 1, 66, 1).due(7, "buy", 0, 1, 100, 1).due(15, "buy", 0, 1, 100, 0);
        // A PRICE of 0 costs nothing, yet fewest comes ahead of more than is needed.
        edge(17, "of like ones fewest").town("p17 0;p30 0;t1 1 0;t1 1 0;y1 1;").due(0, "buy", 0, 1, 0, 1).due(1, "buy", 0, 1, 50, 1)
            .due(3, "buy", 0, 1, 100, 1);
        edge(17, "a SET of TICKETS").town("p17 999;p30 0;" + "t1 9 99;".repeat(8) + "y1 1;").due(255, "buy", 0, 1, 100, 1)
            .due(792, "buy", 0, 1, 100, 0).due(1, "buy", 0, 1, 12, 1).due(3, "buy", 0, 1, 13, 1);
        edge(17, "(PRICES together its COINS at most)").town("p17 791;p30 0;" + "t1 9 99;".repeat(8) + "y1 1;")
            .due(NONE, "buy", 0, 1, 100, 1).due(127, "buy", 0, 1, 87, 1);
    }

    private static void buyWhatIsForSale() {
        String text = "p17 99;p30 0;t0 1 1;t1 1 4;t1 1 6;y1 1;";
        edge(17, "(held by others, not PAWNED)").town(text).due(2, "buy", 0, 1, 66, 1).times(1, "pawn", 1, 1).due(4, "buy", 0, 1, 66, 1)
            .times(1, "pawn", 2, 1).due(NONE, "buy", 0, 1, 66, 1).due(0, "buy", 0, 1, 33, 1);
        // Its own that is PAWNED does not age it, and cannot be bought; one PAWNED to it ages it already.
        edge(17, "(held by others, not PAWNED)").town(text).times(1, "pawn", 0, 1).due(2, "buy", 0, 1, 33, 1).due(6, "buy", 0, 1, 66, 1)
            .due(NONE, "buy", 0, 1, 67, 1);
        edge(17, "(held by others, not PAWNED)").town(text).times(1, "pawn", 1, 0).due(0, "buy", 0, 1, 66, 1).due(4, "buy", 0, 1, 100, 1);
        // What is OUT is for sale, but is of no use in the REST.
        edge(17, "ODDS that it has in the REST a RIGHT").town("p17 99;p30 0;t1 1 1;t1 1 5;y2 0;").due(1, "buy", 0, 1, 100, 1)
            .due(1, "draw", 0).due(2, "buy", 0, 1, 100, 1).due(5, "buy", 0, 1, 100, 0).times(1, "pawn", 1, 1)
            .due(NONE, "buy", 0, 1, 1, 1);
    }

    // ---- promise 18

    private static void evens() {
        String text = "p10 0;p10 0;t0 1 0;t1 1 0;y2 0;";
        edge(18, "from now n YEARS (1 .. 20) by lot").town(text).refused(OUTSIDE, "evens", 0, 0).refused(OUTSIDE, "evens", 21, 0)
            .refused(OUTSIDE, "evens", -1, 0).refused(OUTSIDE, "evens", MIN, 0).refused(OUTSIDE, "evens", MAX, 0).due(0, "evens", 1, 0)
            .due(0, "evens", 20, 1);
        edge(18, "what = 0 by which, 1 the lesser SPREAD. OUTSIDE").town(text).refused(OUTSIDE, "evens", 1, -1)
            .refused(OUTSIDE, "evens", 1, 2).refused(OUTSIDE, "evens", 1, MIN).refused(OUTSIDE, "evens", 1, MAX);
        edge(18, "NOT: nobody, no TICKETS").refused(NOT, "evens", 1, 0).refused(NOT, "evens", 20, 1);
        edge(18, "NOT: nobody, no TICKETS").town("p10 0;p20 0;").refused(NOT, "evens", 1, 0).refused(NOT, "evens", 20, 1);
        edge(18, "of several the first in this order").town("p10 0;").refused(OUTSIDE, "evens", 0, 0).refused(OUTSIDE, "evens", 21, 0)
            .refused(OUTSIDE, "evens", 1, 2).refused(NOT, "evens", 1, 1);
    }

    private static void evensByWhich() {
        // The first LOTS of 2 are 0 and 0: with RETURN both go to PERSON 0, without one to each.
        edge(18, "1 with, 0 without, 2 alike; the lesser one").town("p10 0;p10 0;t0 1 0;t1 1 0;y2 1;").due(0, "evens", 1, 0)
            .due(0, "evens", 1, 1);
        edge(18, "1 with, 0 without, 2 alike; the lesser one").town("p10 0;p13 0;t0 1 0;t1 1 0;y2 0;").due(1, "evens", 1, 0)
            .due(1, "evens", 1, 1);
        edge(18, "1 with, 0 without, 2 alike; the lesser one").town("p10 0;p13 0;t0 1 0;y1 0;").due(2, "evens", 1, 0)
            .due(2, "evens", 1, 1).due(2, "evens", 20, 0).due(17, "evens", 20, 1);
        edge(18, "1 with, 0 without, 2 alike; the lesser one").town("p10 0;t0 1 0;").due(2, "evens", 20, 0).due(0, "evens", 20, 1);
        // One TICKET: with RETURN eight DRAWS a YEAR, without it is alone IN THE DRUM and ends the YEAR.
        edge(18, "(or when none is IN THE DRUM)").town("p10 0;p13 0;t0 1 0;y8 0;").due(0, "evens", 1, 0).due(2, "evens", 1, 1)
            .due(0, "evens", 20, 0).due(17, "evens", 20, 1);
        // Without RETURN three TICKETS go once each in a YEAR of three DRAWS: none of those drawn comes back in it.
        edge(18, "without RETURN one that was drawn is OUT until the YEAR ends").town("p10 0;p10 0;p10 0;t0 1 0;t1 1 0;t2 1 0;y3 1;")
            .due(0, "evens", 1, 0).due(0, "evens", 1, 1).due(0, "evens", 2, 1).due(0, "evens", 5, 1).due(0, "evens", 20, 1)
            .due(0, "evens", 20, 0);
        edge(18, "from now n YEARS (1 .. 20) by lot").town("p10 0;p10 0;p10 0;p10 0;t0 1 0;t1 2 0;t2 3 0;t3 4 0;y3 1;")
            .due(1, "evens", 1, 1).due(2, "evens", 2, 1).due(3, "evens", 5, 1).due(9, "evens", 20, 1).due(0, "evens", 20, 0);
        // From now as if no DRAW of this YEAR had been: both TICKETS are IN THE DRUM, two DRAWS are to come.
        edge(18, "(this YEAR begun anew, all IN THE DRUM)").town("p10 0;p12 0;t0 1 0;t1 1 0;y2 0;").due(0, "draw", 0).times(1, "seed", 0)
            .due(2, "evens", 1, 0).due(1, "evens", 1, 1);
        // THE SEED as now: 2 gives the LOTS 0 and 1 of 2 (908, 22817), so that both rules are alike.
        edge(18, "THE SEED as now").town("p10 0;p10 0;t0 1 0;t1 1 0;y2 1;").times(1, "seed", 0).due(0, "evens", 1, 0)
            .times(1, "seed", 2).due(2, "evens", 1, 0).due(2, "seed", 0);
        edge(18, "AGE 999 at most").town("p99 0;p99 0;t0 1 0;y1 1;").times(10, "lots", 99).due(900, "evens", 20, 1).due(2, "evens", 20, 0);
        edge(18, "AGE 999 at most").town("p99 0;p99 0;t0 1 0;y1 1;").times(9, "lots", 99).due(899, "evens", 8, 1)
            .due(900, "evens", 9, 1).due(900, "evens", 10, 1);
        edge(18, "who AGES by it is its PLEDGEE").town("p10 0;p13 0;t0 1 0;y1 0;").times(1, "pawn", 0, 1).due(4, "evens", 1, 1);
    }

    // ---- promise 19

    private static void couples() {
        String text = "p20 0;p30 0;p99 0;";
        edge(19, "NONE. UNKNOWN, OUTSIDE.").town(text).refused(UNKNOWN, "couples", 5, 3).refused(UNKNOWN, "couples", 5, -2)
            .refused(UNKNOWN, "couples", 5, MIN).refused(UNKNOWN, "couples", 5, MAX).due(0, "couples", 5, NONE);
        edge(19, "AGES apart by d at most (0 .. 99)").town(text).refused(OUTSIDE, "couples", -1, NONE)
            .refused(OUTSIDE, "couples", 100, NONE).refused(OUTSIDE, "couples", MIN, 0).refused(OUTSIDE, "couples", MAX, 0)
            .due(1, "couples", 99, NONE);
        edge(19, "of several the first in this order").town(text).refused(UNKNOWN, "couples", 100, 3).refused(UNKNOWN, "couples", -1, -2);
        edge(19, "p = NONE how many, else with whom; NONE").town("").due(0, "couples", 0, NONE).due(0, "couples", 99, NONE)
            .refused(UNKNOWN, "couples", 0, 0);
        edge(19, "p = NONE how many, else with whom; NONE").town("p20 0;").due(0, "couples", 99, NONE).due(NONE, "couples", 99, 0);
        edge(19, "AGES apart by d at most (0 .. 99)").town("p20 0;p30 0;").due(0, "couples", 9, NONE).due(NONE, "couples", 9, 0)
            .due(1, "couples", 10, NONE).due(1, "couples", 10, 0).due(0, "couples", 10, 1);
        edge(19, "AGES apart by d at most (0 .. 99)").town("p30 0;p30 0;p31 0;").due(1, "couples", 0, NONE).due(1, "couples", 0, 0)
            .due(NONE, "couples", 0, 2);
        // 99 apart is near enough for d of 99, 100 apart is not.
        edge(19, "AGES apart by d at most (0 .. 99)").town("p98 0;p0 0;t0 1 0;r0 0 0 0;y1 1;").due(1, "couples", 99, NONE)
            .due(0, "couples", 97, NONE).due(0, "draw", 0).due(1, "couples", 99, NONE).due(0, "couples", 98, NONE).due(0, "draw", 0)
            .due(0, "couples", 99, NONE).due(NONE, "couples", 99, 1);
        edge(19, "PEOPLE who all have the RIGHT to wed").town("p18 0;p18 0;p17 0;p17 0;").due(1, "couples", 99, NONE)
            .due(1, "couples", 99, 0).due(NONE, "couples", 99, 2).due(NONE, "couples", 99, 3);
        edge(19, "PEOPLE who all have the RIGHT to wed").town("p17 0;p18 0;t0 1 0;").due(0, "couples", 99, NONE).due(0, "draw", 0)
            .due(1, "couples", 99, NONE);
        // It is the right 2, not the others.
        edge(19, "PEOPLE who all have the RIGHT to wed").town("p5 0;p5 0;r99 99 5 99;").due(1, "couples", 0, NONE)
            .town("p5 0;p5 0;r0 0 6 0;").due(0, "couples", 0, NONE);
    }

    private static void couplesWithWhom() {
        edge(19, "the most pairs of PEOPLE").town("p20 0;".repeat(6)).due(3, "couples", 0, NONE).due(1, "couples", 0, 0)
            .due(0, "couples", 0, 1).due(3, "couples", 0, 2).due(2, "couples", 0, 3).due(5, "couples", 0, 4).due(4, "couples", 0, 5);
        edge(19, "the most pairs of PEOPLE").town("p20 0;".repeat(5)).due(2, "couples", 0, NONE).due(NONE, "couples", 0, 4);
        // 30 - 40 - 50 - 60: 0 with 1 would leave the others alone.
        edge(19, "the most pairs of PEOPLE").town("p40 0;p50 0;p30 0;p60 0;").due(2, "couples", 10, NONE).due(2, "couples", 10, 0)
            .due(3, "couples", 10, 1).due(0, "couples", 10, 2).due(1, "couples", 10, 3);
        edge(19, "the most pairs of PEOPLE").town("p40 0;p30 0;p50 0;p60 0;").due(2, "couples", 10, NONE).due(1, "couples", 10, 0)
            .due(0, "couples", 10, 1).due(3, "couples", 10, 2).due(2, "couples", 10, 3);
        edge(19, "(PERSON by PERSON the lesser one, none last)").town("p40 0;p30 0;p50 0;").due(1, "couples", 10, NONE)
            .due(1, "couples", 10, 0).due(0, "couples", 10, 1).due(NONE, "couples", 10, 2);
        // The first PERSON would rather have anyone than none, so that the last one is alone.
        edge(19, "(PERSON by PERSON the lesser one, none last)").town("p50 0;p30 0;p40 0;").due(1, "couples", 10, NONE)
            .due(2, "couples", 10, 0).due(NONE, "couples", 10, 1).due(0, "couples", 10, 2);
        edge(19, "(PERSON by PERSON the lesser one, none last)").town("p99 0;p30 0;p30 0;p30 0;").due(1, "couples", 10, NONE)
            .due(NONE, "couples", 10, 0).due(2, "couples", 10, 1).due(1, "couples", 10, 2).due(NONE, "couples", 10, 3);
    }

    // ---- 15 to 19: nothing changes

    private static void nothingChanges() {
        String text = "p17 30;p20 0;p64 100;t0 1 10;t1 2 5;t2 3 40;t0 2 20;y3 0;";
        String sentence = "TRIED from now; nothing changes by it";
        unchanged(edge(15, sentence).town(text), "odds", 0, 1);
        unchanged(edge(16, sentence).town(text), "never", 0, 9);
        unchanged(edge(17, sentence).town(text), "buy", 1, 3, 0, 1);
        unchanged(edge(18, sentence).town(text), "evens", 20, 0);
        unchanged(edge(19, sentence).town(text), "couples", 99, NONE);
    }

    /** Behind the call all is as ahead of it: AGES, COINS, TICKETS, the drum, THE SEED, what can be undone. */
    private static void unchanged(Edge edge, String call, int... asked) {
        edge.times(1, "seed", 5).times(1, "lots", 4).times(1, call, asked).people(0, 18, 21, 66).people(1, 32, 3, 114)
            .tickets(0, 0, 1, 2, 0).tickets(2, 10, 5, 40, 20).tickets(3, NONE, NONE, NONE, NONE).due(1, "told", 3).due(1, "told", 4)
            .due(11, "told", 7).due(4, "told", 13).due(2089129857, "seed", 0).due(0, "undo", 4).people(0, 17, 20, 64);
    }
}
