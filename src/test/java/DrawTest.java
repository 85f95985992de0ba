/** Promises 9 to 14 and 30 to 32: draws, lots, sales, pawns, prices, what is undone, seeds and images. */
public final class DrawTest {
    private static final Check check = new Check("DrawTest");

    public static void main(String[] args) {
        drawsWithoutReturn();
        drawsWithReturn();
        bounds();
        lots();
        sales();
        pawns();
        prices();
        undone();
        images();
        check.end();
    }

    private static void drawsWithoutReturn() {
        BirthdayLot lot = Check.townOf("p8 0;p29 5;t0 1 0;t1 1 0;t1 1 0;y8 0;");
        check.due("draw(3)", lot.draw(3), Check.UNKNOWN);
        check.due("draw(-1)", lot.draw(-1), Check.UNKNOWN);
        check.due("draw(0)", lot.draw(0), 0);
        check.due("age", lot.person(0, 0), 9);
        check.due("cake at 9", lot.person(0, 1), 1);
        check.due("draw(0) again", lot.draw(0), Check.NOT);
        check.due("draw(2)", lot.draw(2), 1);
        check.due("cake at 30", lot.person(1, 1), 9);
        check.due("drum", lot.told(7), 2);
        check.due("draw(1)", lot.draw(1), 1);
        check.due("the drum was empty: years", lot.told(3), 1);
        check.due("draws", lot.told(4), 0);
        check.due("drum", lot.told(7), 7);
        lot.draw(0);
        check.due("cake at 10", lot.person(0, 1), 3);
    }

    private static void drawsWithReturn() {
        BirthdayLot lot = Check.townOf("p8 0;p29 5;t0 1 0;t1 1 0;y3 1;");
        for (int i = 1; i <= 3; i++) {
            check.due("draw(1)", lot.draw(1), 1);
            check.due("drum", lot.told(7), 3);
            check.due("draws", lot.told(4), i % 3);
            check.due("years", lot.told(3), i / 3);
        }
        check.due("age", lot.person(1, 0), 32);
    }

    private static void bounds() {
        BirthdayLot lot = Check.townOf("p99 999;t0 1 0;y1 1;");
        for (int i = 0; i < 9; i++) lot.lots(99);
        check.due("age 990", lot.person(0, 0), 990);
        check.due("coins at most", lot.person(0, 1), 9999);
        lot.lots(9);
        check.due("age 999", lot.person(0, 0), 999);
        check.due("draw at 999", lot.draw(0), 0);
        check.due("age stays 999", lot.person(0, 0), 999);
        check.due("years", lot.told(3), 901);
        lot.write(0);
        check.due("ageBy at 999", lot.ageBy(0), 999);
        lot.candles(0, 999);
        check.due("rows at 999", lot.rows(3, -1), 1);
        check.due("evens at 999", lot.evens(20, 1), 0);
        lot.candles(0, 998);
        check.due("rows at 998", lot.rows(3, -1), 0);
    }

    private static void lots() {
        // THE SEED goes 0, 12345, 1406932606, 654583775, 1449466924: / 65536: 0, 21468, 9988, 22117.
        BirthdayLot lot = Check.townOf("p0 0;t0 1 0;t0 2 0;t0 3 0;y4 1;");
        check.due("lots(0)", lot.lots(0), Check.OUTSIDE);
        check.due("lots(100)", lot.lots(100), Check.OUTSIDE);
        check.due("first lot: 0 of 6", lot.lots(1), 0);
        check.due("seed", lot.seed(12345), 12345);
        check.due("second lot: 21468 is 0 of 6", lot.lots(1), 0);
        check.due("third lot: 9988 is 4 of 6", lot.lots(1), 2);
        check.due("fourth lot: 22117 is 1 of 6", lot.lots(1), 1);
        check.due("seed", lot.seed(0), 1449466924);
        check.due("lots(4)", lot.lots(4), 1);
        check.due("years", lot.told(3), 2);
        check.due("age", lot.person(0, 0), 8);
        BirthdayLot out = Check.townOf("p0 0;t0 1 0;t0 2 0;t0 3 0;y4 0;");
        check.due("0 of 6", out.lots(1), 0);
        check.due("21468 is 3 of the 5 left", out.lots(1), 2);
        check.due("the last one", out.lots(1), 1);
        check.due("years", out.told(3), 1);
        check.due("lots(99)", out.lots(99) >= 0 ? 1 : 0, 1);
        check.due("years of three draws", out.told(3), 34);
        check.due("goes on", out.told(13), 30);
        // The greatest seed: 2147483647 becomes 1043980748, / 65536 is 15929: 14 of 15.
        BirthdayLot great = Check.townOf("p0 0;t0 9 0;t0 5 0;t0 1 0;");
        great.seed(2147483647);
        check.due("15929 is 14 of 15", great.lots(1), 2);
        check.due("seed", great.seed(0), 1043980748);
    }

    private static void sales() {
        BirthdayLot lot = Check.townOf("p20 10;p30 0;p40 3;t0 1 4;t1 1 10;t2 1 11;");
        check.due("sell(3, 0)", lot.sell(3, 0), Check.UNKNOWN);
        check.due("sell(-1, 0)", lot.sell(-1, 0), Check.UNKNOWN);
        check.due("sell(0, 3)", lot.sell(0, 3), Check.UNKNOWN);
        check.due("sell(0, -1)", lot.sell(0, -1), Check.UNKNOWN);
        check.due("it holds it", lot.sell(0, 0), Check.NOT);
        check.due("not so many coins", lot.sell(2, 0), Check.NOT);
        check.due("no coins", lot.sell(0, 1), Check.NOT);
        check.due("just enough", lot.sell(1, 0), 0);
        check.due("holder", lot.ticket(1, 0), 0);
        check.due("seller", lot.person(1, 1), 10);
        lot.pawn(0, 2);
        check.due("pawned", lot.sell(0, 1), Check.NOT);
        lot.pawn(0, -1);
        check.due("redeemed", lot.sell(0, 1), 6);
        lot.price(2, 0);
        check.due("for nothing", lot.sell(2, 0), 4);
        BirthdayLot rich = Check.townOf("p99 999;p0 999;t0 1 0;t0 1 99;y1 1;");
        for (int i = 0; i < 9; i++) rich.lots(99);
        check.due("rich", rich.person(0, 1), 9999);
        check.due("sold to the other", rich.sell(1, 1), 900);
        check.due("9999 at most", rich.person(0, 1), 9999);
    }

    private static void pawns() {
        BirthdayLot lot = Check.townOf("p20 10;p30 0;p40 3;t0 1 4;t1 1 10;");
        check.due("pawn(2, 0)", lot.pawn(2, 0), Check.UNKNOWN);
        check.due("pawn(-1, 0)", lot.pawn(-1, 0), Check.UNKNOWN);
        check.due("pawn(0, 3)", lot.pawn(0, 3), Check.UNKNOWN);
        check.due("pawn(0, -2)", lot.pawn(0, -2), Check.UNKNOWN);
        check.due("pawn(0, 1)", lot.pawn(0, 1), Check.NONE);
        check.due("pawn(0, 2)", lot.pawn(0, 2), 1);
        check.due("draw ages the pledgee", lot.draw(0), 2);
        check.due("holder is no older", lot.person(0, 0), 20);
        check.due("holder stays", lot.ticket(0, 0), 0);
        check.due("pawn to the holder", lot.pawn(0, 0), 2);
        check.due("pawned to the holder", lot.sell(0, 2), Check.NOT);
        check.due("redeemed", lot.pawn(0, -1), 0);
        check.due("draw ages the holder", lot.draw(0), 0);
    }

    private static void prices() {
        BirthdayLot lot = Check.townOf("p20 10;t0 1 4;");
        check.due("price(1, 100)", lot.price(1, 100), Check.UNKNOWN);
        check.due("price(-1, 0)", lot.price(-1, 0), Check.UNKNOWN);
        check.due("price(0, 100)", lot.price(0, 100), Check.OUTSIDE);
        check.due("price(0, -1)", lot.price(0, -1), Check.OUTSIDE);
        check.due("price(0, 99)", lot.price(0, 99), 4);
        check.due("price(0, 0)", lot.price(0, 0), 99);
        check.due("ticket(0, 2)", lot.ticket(0, 2), 0);
    }

    private static void undone() {
        BirthdayLot lot = Check.townOf("p20 50;p30 50;t0 1 4;t1 1 5;y2 0;");
        check.due("undo(0)", lot.undo(0), Check.OUTSIDE);
        check.due("undo(31)", lot.undo(31), Check.OUTSIDE);
        check.due("undo(1)", lot.undo(1), Check.NOT);
        lot.price(0, 9);
        lot.draw(0);
        lot.sell(0, 1);
        lot.pawn(1, 0);
        lot.price(1, 77);
        String between = Check.seen(lot);
        lot.draw(1);
        lot.draw(1);
        lot.sell(0, 0);
        lot.seed(99);
        lot.see(0);
        check.due("years", lot.told(3), 1);
        check.due("undo(4)", lot.undo(4), Check.NOT);
        check.due("undo(2)", lot.undo(2), 0);
        lot.tear();
        check.due("the seed stays", lot.seed(0), 99);
        check.isTrue("as between", Check.seen(lot).equals(between));
        check.due("undo(1)", lot.undo(1), 0);
        check.due("a price ahead of it stays", lot.ticket(0, 2), 9);
        check.due("a price behind it does not", lot.ticket(1, 2), 5);
        check.due("holder", lot.ticket(0, 0), 0);
        check.due("pledgee", lot.ticket(1, 3), Check.NONE);
        check.due("coins", lot.person(0, 1), 50);
        check.due("coins", lot.person(1, 1), 50);
        check.due("drum", lot.told(7), 3);
        lot.lots(31);
        check.due("30 are kept", lot.told(13), 30);
        check.due("undo(30)", lot.undo(30), 0);
        check.due("the first stays", lot.told(4), 1);
        check.due("no more", lot.undo(1), Check.NOT);
        lot.lots(5);
        check.due("undo(3)", lot.undo(3), 1);
        check.due("two are left", lot.told(13), 2);
        check.due("draws", lot.told(4), 1);
    }

    private static void images() {
        BirthdayLot lot = Check.townOf("p20 50;p30 50;t0 1 4;t1 1 5;y2 0;");
        check.due("keep(-1)", lot.keep(-1), Check.UNKNOWN);
        check.due("keep(2)", lot.keep(2), Check.UNKNOWN);
        check.due("goBack(2)", lot.goBack(2), Check.UNKNOWN);
        check.due("goBack(-1)", lot.goBack(-1), Check.UNKNOWN);
        check.due("goBack(0)", lot.goBack(0), Check.NOT);
        check.due("seed(-1)", lot.seed(-1), Check.OUTSIDE);
        check.due("seed(2147483647)", lot.seed(2147483647), 0);
        check.due("seed(41)", lot.seed(41), 2147483647);
        lot.lots(5);
        lot.pawn(0, 1);
        lot.price(0, 33);
        check.due("keep(0)", lot.keep(0), 1);
        check.due("nothing can be undone", lot.undo(1), Check.NOT);
        String kept = Check.seen(lot);
        check.due("goBack(1)", lot.goBack(1), Check.NOT);
        lot.lots(3);
        lot.sell(1, 0);
        lot.pawn(0, -1);
        lot.sell(0, 1);
        lot.price(1, 0);
        check.due("keep(1)", lot.keep(1), 1);
        String other = Check.seen(lot);
        lot.lots(7);
        lot.seed(5);
        check.due("goBack(0)", lot.goBack(0), 1);
        check.isTrue("as kept", Check.seen(lot).equals(kept));
        check.due("nothing can be undone", lot.undo(1), Check.NOT);
        check.due("goBack(1)", lot.goBack(1), 1);
        check.isTrue("as the other", Check.seen(lot).equals(other));
        lot.see(0);
        lot.candles(1, 40);
        lot.write(1);
        check.due("goBack(0)", lot.goBack(0), 1);
        check.due("what was seen stays", lot.tear(), 3);
    }
}
