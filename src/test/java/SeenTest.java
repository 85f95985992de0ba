/** Promises 20 to 29: the weighed drum, candles, the book, and tearing them up. */
public final class SeenTest {
    private static final Check check = new Check("SeenTest");

    public static void main(String[] args) {
        heavy();
        heavyFadesOut();
        candles();
        rowsOverTheYear();
        sure();
        book();
        tear();
        check.end();
    }

    private static void heavy() {
        BirthdayLot lot = Check.townOf("p1 1;t0 1 0;t0 3 0;");
        check.due("see(2)", lot.see(2), Check.UNKNOWN);
        check.due("see(-1)", lot.see(-1), Check.UNKNOWN);
        check.due("belief(2)", lot.belief(2), Check.UNKNOWN);
        check.due("belief(-2)", lot.belief(-2), Check.UNKNOWN);
        for (int t = -1; t < 2; t++) check.due("ahead: belief(" + t + ")", lot.belief(t), 333333);
        check.due("ahead: likeliest()", lot.likeliest(), 0);
        check.due("see(0)", lot.see(0), 1);
        // 2/5, 1/7, 1/4 of a billion: 400000000, 142857142, 250000000: together 792857142.
        check.due("belief(0)", lot.belief(0), 504504);
        check.due("belief(1)", lot.belief(1), 180180);
        check.due("belief(NONE)", lot.belief(-1), 315315);
        check.due("likeliest()", lot.likeliest(), 0);
        lot.tear();
        lot.see(1);
        // 3/5, 6/7, 3/4.
        check.due("belief(0)", lot.belief(0), 271844);
        check.due("likeliest()", lot.likeliest(), 1);
        check.due("see(1)", lot.see(1), 2);
        lot.tear();
        lot.see(0);
        for (int i = 0; i < 3; i++) lot.see(1);
        // 2*27/625, 1*216/2401, 27/256: none is likeliest.
        check.due("likeliest() none", lot.likeliest(), Check.NONE);
        check.due("belief(NONE)", lot.belief(-1) > lot.belief(1) ? 1 : 0, 1);
        for (int i = 5; i <= 8; i++) check.due("see", lot.see(0), i);
        check.due("see the ninth", lot.see(0), Check.FULL);
        check.due("see an unknown one", lot.see(9), Check.UNKNOWN);
        check.due("told(10)", lot.told(10), 8);
    }

    private static void heavyFadesOut() {
        BirthdayLot lot = Check.townOf("p1 1;t0 1 0;t0 9 0;t0 9 0;t0 9 0;t0 9 0;t0 9 0;t0 9 0;t0 9 0;");
        for (int i = 0; i < 8; i++) lot.see(0);
        for (int t = -1; t < 8; t++) check.due("belief(" + t + ") of nothing", lot.belief(t), 0);
        check.due("likeliest() of nothing", lot.likeliest(), 0);
        BirthdayLot alike = Check.townOf("p1 1;t0 1 0;t0 2 0;t0 2 0;");
        alike.see(0);
        alike.see(1);
        alike.see(2);
        // The guesses 1 and 2: 4/343 each, 0: 8/216, none 4/125.
        check.due("likeliest()", alike.likeliest(), 0);
        BirthdayLot ties = Check.townOf("p1 1;t0 2 0;t0 2 0;t0 2 0;");
        ties.see(1);
        ties.see(2);
        check.due("of like ones the least", ties.likeliest(), 1);
    }

    private static void candles() {
        BirthdayLot lot = Check.townOf("p10 0;p20 0;p30 0;t0 1 0;t1 1 0;t0 1 0;y4 1;");
        check.due("candles(3, 1000)", lot.candles(3, 1000), Check.UNKNOWN);
        check.due("candles(-1, 0)", lot.candles(-1, 0), Check.UNKNOWN);
        check.due("candles(0, 1000)", lot.candles(0, 1000), Check.OUTSIDE);
        check.due("candles(0, -1)", lot.candles(0, -1), Check.OUTSIDE);
        check.due("rows(0, NONE)", lot.rows(0, -1), Check.OUTSIDE);
        check.due("rows(5, NONE)", lot.rows(5, -1), Check.OUTSIDE);
        check.due("rows(5, -2)", lot.rows(5, -2), Check.OUTSIDE);
        check.due("rows(0, -2147483648)", lot.rows(0, -2147483648), Check.OUTSIDE);
        check.due("rows(5, 5)", lot.rows(5, 5), Check.OUTSIDE);
        // Below 0 and behind a row's end there is no i-th: no bound of i is told on either side.
        check.due("rows(2, -2)", lot.rows(2, -2), Check.NONE);
        check.due("rows(4, -2147483648)", lot.rows(4, -2147483648), Check.NONE);
        check.due("rows(2, 2)", lot.rows(2, 2), Check.NONE);
        check.due("rows(4, 3)", lot.rows(4, 3), 0);
        check.due("rows(4, 4)", lot.rows(4, 4), Check.NONE);
        check.due("rows(1, 1)", lot.rows(1, 1), Check.NONE);
        check.due("rows(3, 2147483647)", lot.rows(3, 2147483647), Check.NONE);
        check.due("sure(5)", lot.sure(5), Check.OUTSIDE);
        check.due("sure(0)", lot.sure(0), Check.OUTSIDE);
        check.due("without candles all fits", lot.rows(4, -1), 81);
        check.due("candles(0, 12)", lot.candles(0, 12), 1);
        // Two of three draws are 0 or 2, one is 1.
        check.due("rows(3, NONE)", lot.rows(3, -1), 12);
        int[] first = {0, 0, 1};
        for (int i = 0; i < 3; i++) check.due("rows(3, " + i + ")", lot.rows(3, i), first[i]);
        check.due("sure(3)", lot.sure(3), 2);
        check.due("rows(1, NONE)", lot.rows(1, -1), 0);
        check.due("rows(1, 0)", lot.rows(1, 0), Check.NONE);
        check.due("sure(1)", lot.sure(1), 0);
        check.due("rows(4, NONE)", lot.rows(4, -1), 24);
        check.due("sure(4)", lot.sure(4), 2);
        check.due("candles(0, 0)", lot.candles(0, 0), 1);
        check.due("none so young", lot.rows(4, -1), 0);
        check.due("candles(0, 999)", lot.candles(0, 999), 1);
        check.due("none so old", lot.rows(4, 3), Check.NONE);
        check.due("the latest of each", lot.candles(0, 11), 1);
        check.due("rows(2, NONE)", lot.rows(2, -1), 4);
        check.due("rows(2, 0)", lot.rows(2, 0), 0);
        check.due("rows(2, 1)", lot.rows(2, 1), 1);
        check.due("candles(2, 30)", lot.candles(2, 30), 5);
        check.due("rows(2, NONE)", lot.rows(2, -1), 4);
        check.due("candles(2, 29)", lot.candles(2, 29), 5);
        check.due("younger than it is", lot.rows(2, -1), 0);
        lot.candles(2, 30);
        lot.pawn(0, 2);
        // Only TICKET 2 ages 0 now, and nobody may draw 0.
        check.due("pawned rows", lot.rows(2, -1), 2);
        check.due("pawned first", lot.rows(2, 0), 1);
        check.due("pawned sure", lot.sure(2), 6);
    }

    private static void rowsOverTheYear() {
        BirthdayLot lot = Check.townOf("p10 0;p20 0;t0 1 0;t1 1 0;t0 1 0;y2 0;");
        lot.draw(0);
        // This YEAR has one draw more, of 1 or 2; then two of three.
        check.due("rows(1, NONE)", lot.rows(1, -1), 2);
        check.due("rows(1, 0)", lot.rows(1, 0), 1);
        check.due("rows(2, NONE)", lot.rows(2, -1), 6);
        check.due("rows(3, NONE)", lot.rows(3, -1), 12);
        check.due("rows(4, NONE)", lot.rows(4, -1), 36);
        BirthdayLot empty = Check.townOf("p10 0;p20 0;t0 1 0;t1 1 0;y8 0;");
        check.due("the drum gets empty", empty.rows(4, -1), 4);
        check.due("both are sure", empty.sure(2), 3);
    }

    private static void sure() {
        BirthdayLot lot = Check.townOf("p10 0;p20 0;t0 1 0;t1 1 0;t1 1 0;y3 0;");
        lot.candles(0, 11);
        check.due("sure(1)", lot.sure(1), 1);
        check.due("sure(2)", lot.sure(2), 1);
        lot.candles(1, 22);
        check.due("sure(3)", lot.sure(3), 7);
        check.due("rows(3, NONE)", lot.rows(3, -1), 6);
        check.due("sure(2)", lot.sure(2), 0);
    }

    private static void book() {
        BirthdayLot lot = Check.townOf("p10 0;p20 0;t0 1 0;t1 1 0;t1 1 0;y2 0;");
        check.due("write(3)", lot.write(3), Check.UNKNOWN);
        check.due("write(-1)", lot.write(-1), Check.UNKNOWN);
        check.due("ageBy(2)", lot.ageBy(2), Check.UNKNOWN);
        check.due("ageBy(-1)", lot.ageBy(-1), Check.UNKNOWN);
        check.due("empty judge()", lot.judge(), Check.NONE);
        check.due("empty ageBy(1)", lot.ageBy(1), 20);
        lot.write(1);
        lot.write(2);
        lot.write(2);
        check.due("write(1)", lot.write(1), 4);
        check.due("judge()", lot.judge(), Check.NONE);
        check.due("ageBy(1)", lot.ageBy(1), 24);
        lot.write(0);
        lot.write(0);
        lot.write(1);
        check.due("judge() wrong", lot.judge(), 5);
        check.due("ageBy(0) ahead of it", lot.ageBy(0), 11);
        check.due("ageBy(1) ahead of it", lot.ageBy(1), 24);
        lot.draw(0);
        // Now the year ends behind the first line: 1 | 2 2: the third is wrong.
        check.due("judge() from now", lot.judge(), 2);
        check.due("ageBy(1) from now", lot.ageBy(1), 22);
        lot.draw(1);
        lot.draw(1);
        check.due("the first is out", lot.judge(), 0);
        check.due("ageBy(1) as it is", lot.ageBy(1), 22);
        for (int i = 8; i <= 20; i++) check.due("write", lot.write(0), i);
        check.due("write the 21st", lot.write(0), Check.FULL);
        check.due("write an unknown one", lot.write(7), Check.UNKNOWN);
        check.due("told(12)", lot.told(12), 20);
    }

    private static void tear() {
        BirthdayLot lot = Check.townOf("p10 0;p20 0;t0 1 0;");
        lot.see(0);
        lot.see(0);
        lot.candles(0, 11);
        lot.candles(1, 20);
        lot.candles(1, 21);
        lot.write(0);
        check.due("tear()", lot.tear(), 5);
        check.due("told(10)", lot.told(10), 0);
        check.due("told(11)", lot.told(11), 0);
        check.due("told(12)", lot.told(12), 0);
        check.due("tear() again", lot.tear(), 0);
        check.due("rows without candles", lot.rows(2, -1), 1);
        check.due("sure without candles", lot.sure(2), 1);
    }
}
