/** Promises 15 to 19: odds, never, buy, evens, couples. */
public final class TriedTest {
    private static final Check check = new Check("TriedTest");

    public static void main(String[] args) {
        oddsWithReturn();
        oddsWithoutReturn();
        oddsWithoutTickets();
        never();
        buy();
        buyTies();
        evens();
        couples();
        nothingChanges();
        check.end();
    }

    private static void oddsWithReturn() {
        BirthdayLot lot = Check.townOf("p10 0;p10 0;t0 1 0;t1 2 0;y2 1;");
        check.due("odds(2, 9)", lot.odds(2, 9), Check.UNKNOWN);
        check.due("odds(-1, 0)", lot.odds(-1, 0), Check.UNKNOWN);
        check.due("odds(0, 9)", lot.odds(0, 9), Check.OUTSIDE);
        check.due("odds(0, -1)", lot.odds(0, -1), Check.OUTSIDE);
        // 333333333 | 666666667; then 222222222 of the latter, 111111111 of the former.
        check.due("odds(0, 0)", lot.odds(0, 0), 1000000000);
        check.due("odds(0, 1)", lot.odds(0, 1), 555555555);
        check.due("odds(0, 2)", lot.odds(0, 2), 111111111);
        check.due("odds(0, 3)", lot.odds(0, 3), 0);
        check.due("odds(0, 8)", lot.odds(0, 8), 0);
        lot.pawn(0, 1);
        check.due("pawned: odds(0, 1)", lot.odds(0, 1), 0);
        check.due("pawned: odds(1, 2)", lot.odds(1, 2), 1000000000);
        lot.pawn(0, -1);
        lot.draw(1);
        check.due("one is left: odds(0, 1)", lot.odds(0, 1), 333333333);
        check.due("one is left: odds(0, 2)", lot.odds(0, 2), 0);
        BirthdayLot alone = Check.townOf("p10 0;t0 1 0;y8 1;");
        check.due("the only ticket: odds(0, 8)", alone.odds(0, 8), 1000000000);
        check.due("the only ticket: never(0, 1)", alone.never(0, 1), 0);
        BirthdayLot half = Check.townOf("p10 0;p10 0;t0 1 0;t1 1 0;y8 1;");
        check.due("half: odds(0, 8)", half.odds(0, 8), 3906250);
        check.due("half: odds(0, 7)", half.odds(0, 7), 35156250);
    }

    private static void oddsWithoutReturn() {
        BirthdayLot lot = Check.townOf("p10 0;p10 0;t0 1 0;t1 2 0;t1 4 0;y8 0;");
        // 142857142, 285714285, 571428571 are drawn first, all of them in the end.
        check.due("odds(0, 1)", lot.odds(0, 1) > 999999980 ? 1 : 0, 1);
        check.due("odds(1, 2)", lot.odds(1, 2), lot.odds(0, 0));
        check.due("odds(1, 3)", lot.odds(1, 3), 0);
        lot.draw(2);
        // Two are left: 333333333 and 666666666.
        check.due("odds(0, 0)", lot.odds(0, 0), 999999999);
        check.due("odds(1, 1)", lot.odds(1, 1), 999999999);
        check.due("odds(1, 2)", lot.odds(1, 2), 0);
        BirthdayLot one = Check.townOf("p10 0;p10 0;t0 1 0;t1 2 0;t1 4 0;y1 0;");
        check.due("one draw: odds(0, 0)", one.odds(0, 0), 999999998);
        check.due("one draw: odds(0, 1)", one.odds(0, 1), 142857142);
        check.due("one draw: odds(1, 1)", one.odds(1, 1), 857142856);
        BirthdayLot two = Check.townOf("p10 0;p10 0;t0 1 0;t1 2 0;t1 4 0;y2 0;");
        // Left {2}: 142857142*2/6 + 285714285*1/5 = 47619047 + 57142857.
        // Left {1}: 142857142*4/6 + 571428571*1/3 = 95238094 + 190476190.
        // Left {0}: 285714285*4/5 + 571428571*2/3 = 228571428 + 380952380.
        check.due("two draws: odds(0, 1)", two.odds(0, 1), 104761904 + 285714284);
        check.due("two draws: odds(1, 2)", two.odds(1, 2), 609523808);
        check.due("two draws: odds(1, 1)", two.odds(1, 1), 999999996);
        // 70 sets of four can be left of eight alike: 1680 rows of 595238 each, but for what is cut.
        BirthdayLot eight = Check.townOf("p0 0;t0 1 0;t0 1 0;t0 1 0;t0 1 0;t0 1 0;t0 1 0;t0 1 0;t0 1 0;y4 0;");
        check.due("eight, four draws", eight.odds(0, 4), 999999840);
        check.due("eight, five birthdays", eight.odds(0, 5), 0);
    }

    private static void oddsWithoutTickets() {
        for (String year : new String[] {"y4 1;", "y4 0;"}) {
            BirthdayLot lot = Check.townOf("p10 5;" + year);
            check.due("odds(0, 0) " + year, lot.odds(0, 0), 1000000000);
            check.due("odds(0, 1) " + year, lot.odds(0, 1), 0);
            check.due("never(0, 99) " + year, lot.never(0, 99), 1000000000);
            check.due("buy(0, 1, 1, 0) " + year, lot.buy(0, 1, 1, 0), Check.NONE);
            check.due("buy(0, 1, 0, 1) " + year, lot.buy(0, 1, 0, 1), 0);
            check.due("buy(0, 0, 100, 1) " + year, lot.buy(0, 0, 100, 1), 0);
        }
    }

    private static void never() {
        BirthdayLot lot = Check.townOf("p10 0;p10 0;p1 1;t0 1 0;t1 2 0;t1 4 0;y1 0;");
        check.due("never(3, 0)", lot.never(3, 0), Check.UNKNOWN);
        check.due("never(0, 0)", lot.never(0, 0), Check.OUTSIDE);
        check.due("never(0, 100)", lot.never(0, 100), Check.OUTSIDE);
        check.due("never(0, 1)", lot.never(0, 1), 857142858);
        check.due("never(0, 2)", lot.never(0, 2), 734693879);
        check.due("never(0, 3)", lot.never(0, 3), 629737611);
        check.due("never(2, 99)", lot.never(2, 99), 1000000000);
        check.due("never(1, 99)", lot.never(1, 99), 0);
        BirthdayLot out = Check.townOf("p10 0;p10 0;t0 1 0;t1 2 0;t1 4 0;y2 0;");
        int whole = out.never(0, 1);
        check.due("never(0, 1)", whole, 1000000000 - 390476188);
        out.draw(0);
        check.due("it is of whole years", out.never(0, 1), whole);
        check.due("99 of them", out.never(0, 99), 0);
    }

    private static void buy() {
        BirthdayLot lot = Check.townOf("p17 10;p30 0;t0 1 1;t1 1 4;t1 2 6;t1 4 11;y2 1;");
        check.due("buy(2, 9, 9, 9)", lot.buy(2, 9, 9, 9), Check.UNKNOWN);
        check.due("buy(0, 4, 0, 0)", lot.buy(0, 4, 0, 0), Check.OUTSIDE);
        check.due("buy(0, -1, 0, 0)", lot.buy(0, -1, 0, 0), Check.OUTSIDE);
        check.due("buy(0, 1, 101, 0)", lot.buy(0, 1, 101, 0), Check.OUTSIDE);
        check.due("buy(0, 1, -1, 0)", lot.buy(0, 1, -1, 0), Check.OUTSIDE);
        check.due("buy(0, 1, 0, 2)", lot.buy(0, 1, 0, 2), Check.OUTSIDE);
        check.due("buy(0, 1, 0, -1)", lot.buy(0, 1, 0, -1), Check.OUTSIDE);
        check.due("it has it", lot.buy(0, 0, 100, 0), 0);
        check.due("it has it", lot.buy(0, 0, 100, 1), 0);
        // 1, 2, 3, 4 of 8: 23, 43, 60, 75 of a hundred.
        check.due("23 for nothing", lot.buy(0, 1, 23, 0), 0);
        check.due("24 is dearer", lot.buy(0, 1, 24, 0), 4);
        check.due("24: which", lot.buy(0, 1, 24, 1), 2);
        check.due("44", lot.buy(0, 1, 44, 0), 6);
        check.due("44: which", lot.buy(0, 1, 44, 1), 4);
        check.due("75 is just enough", lot.buy(0, 1, 75, 0), 10);
        check.due("75: which", lot.buy(0, 1, 75, 1), 6);
        check.due("76 cannot be had", lot.buy(0, 1, 76, 0), Check.NONE);
        check.due("76 cannot be had", lot.buy(0, 1, 76, 1), Check.NONE);
        lot.pawn(1, 1);
        check.due("a pawned one is not for sale", lot.buy(0, 1, 24, 1), 4);
        lot.pawn(1, -1);
        lot.pawn(0, 1);
        check.due("its own is pawned", lot.buy(0, 1, 23, 1), 2);
        check.due("too far", lot.buy(0, 3, 1, 0), Check.NONE);
        check.due("too far, but 0 of a hundred", lot.buy(0, 3, 0, 1), 0);
        BirthdayLot two = Check.townOf("p16 99;p30 0;t1 1 4;t1 1 6;y2 1;");
        check.due("two birthdays", two.buy(0, 2, 26, 1), 3);
        check.due("two birthdays", two.buy(0, 2, 25, 1), 1);
        check.due("two birthdays", two.buy(0, 2, 100, 0), 10);
        two.draw(0);
        check.due("one draw is left", two.buy(0, 2, 1, 0), Check.NONE);
    }

    private static void buyTies() {
        BirthdayLot lot = Check.townOf("p17 9;p30 0;t1 1 1;t1 1 2;t1 2 3;t1 2 3;y1 0;");
        // 33 of a hundred: {0, 1} at 3, {2} at 3, {3} at 3.
        check.due("fewest", lot.buy(0, 1, 33, 1), 4);
        check.due("price", lot.buy(0, 1, 33, 0), 3);
        lot.price(2, 4);
        check.due("least price", lot.buy(0, 1, 33, 1), 8);
        lot.price(3, 4);
        check.due("least price again", lot.buy(0, 1, 33, 1), 3);
        lot.price(0, 2);
        check.due("fewest again, then the least set", lot.buy(0, 1, 33, 1), 4);
        lot.sell(2, 0);
        check.due("held already", lot.buy(0, 1, 33, 1), 0);
        lot.draw(2);
        check.due("just of age has it", lot.buy(0, 1, 100, 1), 0);
        BirthdayLot cut = Check.townOf("p17 9;p18 9;t0 1 1;t1 1 2;t1 1 3;y3 0;");
        check.due("cut odds are below a hundred", cut.buy(0, 1, 100, 0), Check.NONE);
        check.due("just of age has it for sure", cut.buy(1, 1, 100, 0), 0);
    }

    private static void evens() {
        BirthdayLot lot = Check.townOf("p10 0;p10 0;t0 1 0;t1 1 0;y2 0;");
        check.due("evens(0, 0)", lot.evens(0, 0), Check.OUTSIDE);
        check.due("evens(21, 0)", lot.evens(21, 0), Check.OUTSIDE);
        check.due("evens(1, 2)", lot.evens(1, 2), Check.OUTSIDE);
        check.due("evens(1, -1)", lot.evens(1, -1), Check.OUTSIDE);
        // Lots of 2: 0, 0, so with return both go to one; without, one each.
        check.due("evens(1, 0)", lot.evens(1, 0), 0);
        check.due("evens(1, 1)", lot.evens(1, 1), 0);
        BirthdayLot alike = Check.townOf("p10 0;p13 0;t0 1 0;y1 1;");
        check.due("alike", alike.evens(2, 0), 2);
        check.due("alike", alike.evens(2, 1), 1);
        check.due("alike", alike.evens(20, 1), 17);
        // With return the lots 0, 0 both go to the younger one: 3 less; without, one each.
        BirthdayLot with = Check.townOf("p10 0;p13 0;t0 1 0;t1 1 0;y2 0;");
        check.due("with", with.evens(1, 0), 1);
        check.due("with", with.evens(1, 1), 1);
        with.draw(0);
        check.due("this year is begun anew", with.evens(1, 1), 0);
        // The lots 0, 21468, 9988, 22117: with return 0, 0, 1, 1 are drawn: 12, 12, 20;
        // without, 0 and 1 in the first year, 1 and 2 in the second: 11, 12, 21.
        BirthdayLot years = Check.townOf("p10 0;p10 0;p20 0;t0 1 0;t1 1 0;t2 1 0;y2 1;");
        check.due("two years", years.evens(2, 1), 8);
        check.due("two years", years.evens(2, 0), 1);
        check.due("one year", years.evens(1, 1), 9);
        check.due("one year", years.evens(1, 0), 0);
        BirthdayLot nobody = Check.townOf("p10 0;");
        check.due("no tickets", nobody.evens(1, 0), Check.NOT);
        check.due("no tickets", nobody.evens(0, 0), Check.OUTSIDE);
    }

    private static void couples() {
        BirthdayLot lot = Check.townOf("p20 0;p30 0;p25 0;p17 0;p35 0;p18 0;");
        check.due("couples(100, 6)", lot.couples(100, 6), Check.UNKNOWN);
        check.due("couples(0, -2)", lot.couples(0, -2), Check.UNKNOWN);
        check.due("couples(100, NONE)", lot.couples(100, -1), Check.OUTSIDE);
        check.due("couples(-1, 0)", lot.couples(-1, 0), Check.OUTSIDE);
        all(lot, 1, 0, -1, -1, -1, -1, -1, -1);
        all(lot, 2, 1, 5, -1, -1, -1, -1, 0);
        // 0 with 2 would leave 5 alone, but 1 with 4 goes on all the same: two pairs either way.
        all(lot, 5, 2, 2, 4, 0, -1, 1, -1);
        all(lot, 99, 2, 1, 0, 4, -1, 2, -1);
        BirthdayLot chain = Check.townOf("p40 0;p50 0;p30 0;p60 0;");
        // 30 - 40 - 50 - 60: two pairs only without 0 with 1.
        all(chain, 10, 2, 2, 3, 0, 1);
        BirthdayLot last = Check.townOf("p40 0;p30 0;p50 0;");
        all(last, 10, 1, 1, 0, -1);
        BirthdayLot early = Check.townOf("p4 0;p3 0;r0 0 4 0;");
        all(early, 5, 0, -1, -1);
        BirthdayLot just = Check.townOf("p18 0;p18 0;p17 0;");
        all(just, 99, 1, 1, 0, -1);
        BirthdayLot free = Check.townOf("p4 0;p3 0;r99 99 3 99;");
        all(free, 1, 1, 1, 0);
        all(free, 0, 0, -1, -1);
    }

    private static void all(BirthdayLot lot, int d, int pairs, int... with) {
        check.due("couples(" + d + ", NONE)", lot.couples(d, -1), pairs);
        for (int p = 0; p < with.length; p++) check.due("couples(" + d + ", " + p + ")", lot.couples(d, p), with[p]);
    }

    private static void nothingChanges() {
        BirthdayLot lot = Check.townOf("p17 30;p20 0;p64 100;t0 1 10;t1 2 5;t2 3 40;t0 2 20;y3 0;");
        lot.lots(5);
        String before = Check.seen(lot);
        lot.odds(0, 1);
        lot.never(0, 5);
        lot.buy(1, 3, 50, 0);
        lot.buy(2, 3, 99, 1);
        lot.evens(20, 0);
        lot.couples(99, -1);
        lot.rows(4, -1);
        lot.sure(4);
        check.isTrue("what is tried changes nothing", Check.seen(lot).equals(before));
    }
}
