/** Promises 1 to 8: the text, its faults, and what is told of a town. */
public final class TownTest {
    private static final Check check = new Check("TownTest");

    public static void main(String[] args) {
        newObject();
        feeding();
        textsThatStand();
        faults();
        faultsLeaveTheTown();
        townForgets();
        toldOfPeopleAndTickets();
        check.end();
    }

    private static void newObject() {
        BirthdayLot lot = new BirthdayLot();
        int[] due = {0, 0, 0, 0, 0, 4, 1, 0, 0, 0, 0, 0, 0, 0};
        for (int what = 0; what < due.length; what++) check.due("new told(" + what + ")", lot.told(what), due[what]);
        check.due("told(-1)", lot.told(-1), Check.OUTSIDE);
        check.due("told(14)", lot.told(14), Check.OUTSIDE);
        check.due("fault()", lot.fault(), Check.NONE);
        check.due("person(0, 9)", lot.person(0, 9), Check.UNKNOWN);
        check.due("ticket(0, 9)", lot.ticket(0, 9), Check.UNKNOWN);
        check.due("right(0)", lot.right(0), 6);
        check.due("right(3)", lot.right(3), 65);
        check.due("draw(0)", lot.draw(0), Check.UNKNOWN);
        check.due("lots(0)", lot.lots(0), Check.OUTSIDE);
        check.due("lots(1)", lot.lots(1), Check.NOT);
        check.due("evens(0, 0)", lot.evens(0, 0), Check.OUTSIDE);
        check.due("evens(1, 0)", lot.evens(1, 0), Check.NOT);
        check.due("couples(0, NONE)", lot.couples(0, -1), 0);
        check.due("belief(NONE)", lot.belief(-1), 1000000);
        check.due("likeliest()", lot.likeliest(), Check.NONE);
        check.due("rows(1, NONE)", lot.rows(1, -1), Check.NOT);
        check.due("rows(1, 1)", lot.rows(1, 1), Check.NOT);
        check.due("rows(4, 2147483647)", lot.rows(4, 2147483647), Check.NOT);
        check.due("rows(1, -2)", lot.rows(1, -2), Check.NOT);
        check.due("rows(4, -2147483648)", lot.rows(4, -2147483648), Check.NOT);
        check.due("rows(0, -2)", lot.rows(0, -2), Check.OUTSIDE);
        check.due("rows(5, NONE)", lot.rows(5, -1), Check.OUTSIDE);
        check.due("sure(1)", lot.sure(1), Check.NOT);
        check.due("sure(0)", lot.sure(0), Check.OUTSIDE);
        check.due("judge()", lot.judge(), Check.NONE);
        check.due("tear()", lot.tear(), 0);
        check.due("seed(0)", lot.seed(0), 0);
        check.due("undo(1)", lot.undo(1), Check.NOT);
        check.due("goBack(0)", lot.goBack(0), Check.NOT);
        check.due("goBack(1)", lot.goBack(1), Check.NOT);
        check.due("town()", lot.town(), 0);
    }

    private static void feeding() {
        BirthdayLot lot = new BirthdayLot();
        check.due("feed(-1)", lot.feed(-1), Check.OUTSIDE);
        check.due("feed(256)", lot.feed(256), Check.OUTSIDE);
        check.due("feed(0)", lot.feed(0), 1);
        check.due("feed(255)", lot.feed(255), 2);
        for (int i = 3; i <= 250; i++) check.due("feed " + i, lot.feed(' '), i);
        check.due("feed 251", lot.feed(' '), Check.FULL);
        check.due("feed(256) when full", lot.feed(256), Check.OUTSIDE);
        check.due("told(2)", lot.told(2), 250);
        check.due("town()", lot.town(), -11);
        check.due("fault()", lot.fault(), 0);
        check.due("told(2) behind", lot.told(2), 0);
        check.due("feed behind", lot.feed('p'), 1);
    }

    private static void reads(String text, int people, int tickets) {
        BirthdayLot lot = new BirthdayLot();
        Check.feedAll(lot, text);
        check.due("town of <" + text + ">", lot.town(), people);
        check.due("tickets of <" + text + ">", lot.told(1), tickets);
        check.due("fault of <" + text + ">", lot.fault(), Check.NONE);
    }

    private static void textsThatStand() {
        reads("", 0, 0);
        reads("   ", 0, 0);
        reads("p0 0;", 1, 0);
        reads("p 99 999 ;", 1, 0);
        reads("  p  007   000  ;  t 0  009  99 ; ", 1, 1);
        reads("p0 0;p0 0;p0 0;p0 0;p0 0;p0 0;", 6, 0);
        reads("p0 0;t0 1 0;t0 1 0;t0 1 0;t0 1 0;t0 1 0;t0 1 0;t0 1 0;t0 1 0;", 1, 8);
        reads("r0 99 0 99;y8 0;p1 1;t0 9 99;", 1, 1);
        BirthdayLot lot = Check.townOf("y1 0;r1 2 3 4;p12 345;");
        check.due("told(5)", lot.told(5), 1);
        check.due("told(6)", lot.told(6), 0);
        for (int r = 0; r < 4; r++) check.due("right(" + r + ")", lot.right(r), r + 1);
        check.due("right(-1)", lot.right(-1), Check.OUTSIDE);
        check.due("right(4)", lot.right(4), Check.OUTSIDE);
        Check.feedAll(lot, "p1 1;");
        check.due("town again", lot.town(), 1);
        check.due("untold told(5)", lot.told(5), 4);
        check.due("untold told(6)", lot.told(6), 1);
        int[] untold = {6, 18, 18, 65};
        for (int r = 0; r < 4; r++) check.due("untold right(" + r + ")", lot.right(r), untold[r]);
    }

    private static void faulty(String text, int kind, int at) {
        BirthdayLot lot = new BirthdayLot();
        Check.feedAll(lot, text);
        check.due("town of <" + text + ">", lot.town(), -10 - kind);
        check.due("fault of <" + text + ">", lot.fault(), at);
        check.due("letters behind <" + text + ">", lot.told(2), 0);
        check.due("town behind <" + text + ">", lot.town(), 0);
        check.due("fault behind <" + text + ">", lot.fault(), Check.NONE);
    }

    private static void faults() {
        faulty("p", 1, 1);
        faulty("p ", 1, 2);
        faulty("p1", 1, 2);
        faulty("p1 1", 1, 4);
        faulty("p1 1 ", 1, 5);
        faulty("p1 1;;", 1, 5);
        faulty(";", 1, 0);
        faulty("5", 1, 0);
        faulty("5000", 1, 0);
        faulty("x", 1, 0);
        faulty("P1 1;", 1, 0);
        faulty("\t", 1, 0);
        faulty("p1,1;", 1, 2);
        faulty("p;", 1, 1);
        faulty("pp", 1, 1);
        faulty("p1 p", 1, 3);
        faulty("p11;", 1, 3);
        faulty("p1 1 1;", 1, 5);
        faulty("p1 1 1000;", 1, 5);
        faulty("p0 0;t0 1;", 1, 9);
        faulty("p0 0;t0 1 0 0;", 1, 12);
        faulty("y1;", 1, 2);
        faulty("y1 1 1;", 1, 5);
        faulty("r1 1 1 1 1;", 1, 9);
        faulty("r1 1 1 1", 1, 8);
        faulty("p100 0;", 2, 1);
        faulty("p100", 2, 1);
        faulty("p100x", 2, 1);
        faulty("p  0000 0;", 2, 3);
        faulty("p0 1000;", 2, 3);
        faulty("p0 00001", 2, 3);
        faulty("p9999999999999999999 0;", 2, 1);
        faulty("t0 1 0;", 2, 1);
        faulty("p0 0;t1 1 0;p0 0;", 2, 6);
        faulty("p0 0;t0 0 0;", 2, 8);
        faulty("p0 0;t0 10 0;", 2, 8);
        faulty("p0 0;t0 1 100;", 2, 10);
        faulty("y0 1;", 2, 1);
        faulty("y9 1;", 2, 1);
        faulty("y8 2;", 2, 3);
        faulty("r100 0 0 0;", 2, 1);
        faulty("r0 100 0 0;", 2, 3);
        faulty("r0 0 100 0;", 2, 5);
        faulty("r0 0 0 100;", 2, 7);
        faulty("p0 0;p0 0;p0 0;p0 0;p0 0;p0 0;p", 3, 30);
        faulty("p0 0;t0 1 0;t0 1 0;t0 1 0;t0 1 0;t0 1 0;t0 1 0;t0 1 0;t0 1 0; t", 3, 62);
        faulty("y1 1;y", 3, 5);
        faulty("y4 1; y4 1;", 3, 6);
        faulty("r6 18 18 65;r6 18 18 65;", 3, 12);
        faulty("y1 1;y9 9;z", 3, 5);
        faulty("y1 1 y", 1, 5);
    }

    private static void faultsLeaveTheTown() {
        BirthdayLot lot = Check.townOf("p17 30;p5 0;t0 1 10;t1 2 5;y2 0;r1 2 3 4;");
        lot.draw(0);
        lot.pawn(1, 0);
        lot.see(1);
        lot.candles(1, 7);
        lot.write(0);
        lot.seed(77);
        String before = Check.seen(lot);
        Check.feedAll(lot, "y8 1;r0 0 0 0;p1 1;p2 2;p3 3;t2 9 9;t3 9 9;");
        check.due("town()", lot.town(), -12);
        check.due("fault()", lot.fault(), 37);
        check.isTrue("all is as it was", Check.seen(lot).equals(before.replace("f-1", "f37")));
        check.due("undo(1) behind a fault", lot.undo(1), 0);
        lot.keep(1);
        Check.feedAll(lot, "q");
        lot.town();
        check.due("goBack(1) behind a fault", lot.goBack(1), 1);
    }

    private static void townForgets() {
        BirthdayLot lot = Check.townOf("p17 30;p5 0;t0 1 10;t1 2 5;y2 0;");
        lot.keep(0);
        lot.lots(3);
        check.due("years ahead", lot.told(3), 1);
        check.due("draws ahead", lot.told(4), 1);
        lot.pawn(1, 0);
        lot.see(1);
        lot.candles(1, 7);
        lot.write(0);
        int seed = lot.seed(0);
        lot.seed(seed);
        Check.feedAll(lot, "p17 30;p5 0;t0 1 10;t1 2 5;y1 0;");
        check.due("town()", lot.town(), 2);
        int[] due = {2, 2, 0, 0, 0, 1, 0, 3, 3, 12, 0, 0, 0, 0};
        for (int what = 0; what < due.length; what++) check.due("told(" + what + ")", lot.told(what), due[what]);
        check.due("ticket(1, 3)", lot.ticket(1, 3), Check.NONE);
        check.due("undo(1)", lot.undo(1), Check.NOT);
        check.due("goBack(0)", lot.goBack(0), Check.NOT);
        check.due("seed stays", lot.seed(0), seed);
    }

    private static void toldOfPeopleAndTickets() {
        BirthdayLot lot = Check.townOf("p18 30;p65 7;p5 0;t0 1 10;t1 2 5;t0 9 99;y3 0;");
        lot.pawn(0, 2);
        check.due("person(0, 0)", lot.person(0, 0), 18);
        check.due("person(0, 1)", lot.person(0, 1), 30);
        check.due("person(0, 2)", lot.person(0, 2), 7);
        check.due("person(1, 2)", lot.person(1, 2), 15);
        check.due("person(2, 2)", lot.person(2, 2), 0);
        check.due("person(0, 3)", lot.person(0, 3), 5);
        check.due("person(0, 4)", lot.person(0, 4), 4);
        check.due("person(2, 3)", lot.person(2, 3), 0);
        check.due("person(2, 4)", lot.person(2, 4), 1);
        check.due("person(0, 5)", lot.person(0, 5), Check.OUTSIDE);
        check.due("person(0, -1)", lot.person(0, -1), Check.OUTSIDE);
        check.due("person(3, 5)", lot.person(3, 5), Check.UNKNOWN);
        check.due("person(-1, 0)", lot.person(-1, 0), Check.UNKNOWN);
        check.due("ticket(2, 0)", lot.ticket(2, 0), 0);
        check.due("ticket(2, 1)", lot.ticket(2, 1), 9);
        check.due("ticket(2, 2)", lot.ticket(2, 2), 99);
        check.due("ticket(0, 3)", lot.ticket(0, 3), 2);
        check.due("ticket(1, 3)", lot.ticket(1, 3), Check.NONE);
        check.due("ticket(0, 4)", lot.ticket(0, 4), Check.OUTSIDE);
        check.due("ticket(0, -1)", lot.ticket(0, -1), Check.OUTSIDE);
        check.due("ticket(3, 4)", lot.ticket(3, 4), Check.UNKNOWN);
        check.due("ticket(-1, 0)", lot.ticket(-1, 0), Check.UNKNOWN);
        lot.draw(1);
        check.due("told(4)", lot.told(4), 1);
        check.due("told(7)", lot.told(7), 5);
        check.due("told(8)", lot.told(8), 10);
        check.due("told(9)", lot.told(9), 61);
        check.due("told(13)", lot.told(13), 1);
        lot.see(0);
        lot.see(0);
        lot.candles(2, 5);
        lot.write(2);
        check.due("told(10)", lot.told(10), 2);
        check.due("told(11)", lot.told(11), 4);
        check.due("told(12)", lot.told(12), 1);
    }
}
