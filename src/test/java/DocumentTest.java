import java.lang.reflect.Modifier;
import java.util.Arrays;
import java.util.regex.Matcher;
import java.util.regex.Pattern;

/**
 * The document read once from its first line to its last: no word is left out, and what asks for something is
 * shown there and then by ordinary calls, reckoned by hand (the seeds by another program). The boundary cases
 * are in the Edges tests.
 */
public final class DocumentTest {
    private static final int NONE = Check.NONE, UNKNOWN = Check.UNKNOWN, OUTSIDE = Check.OUTSIDE, NOT = Check.NOT, FULL = Check.FULL;
    private static final Edges edges = new Edges("DocumentTest", 1, 32);
    private static final String document = Edges.document();

    private static int place;
    private static String words;

    public static void main(String[] args) {
        whatItIs();
        publicFace();
        terms();
        theTown();
        faults();
        tickets();
        draws();
        oddsAndNever();
        buying();
        evensAndCouples();
        heavy();
        candlesAndBook();
        undoneAndImages();
        interfaceSays();
        promisesOfTheTown();
        promisesOfDraws();
        promisesOfWhatIsTried();
        promisesOfWhatWasSeen();
        promisesOfImages();
        notPromised();
        edges.check().isTrue("the document goes on with <" + ahead() + ">", place == document.length());
        edges.end();
    }

    private static String ahead() {
        return document.substring(place, Math.min(document.length(), place + 80));
    }

    /** The document's next words; those that ask for nothing that a call could show are passed by this alone. */
    private static void next(String text) {
        words = text;
        if (document.isEmpty()) return;
        while (place < document.length() && document.charAt(place) == ' ') place++;
        boolean stands = document.startsWith(text, place);
        edges.check().isTrue("the document goes on with <" + ahead() + ">, not with <" + text + ">", stands);
        // A changed sentence is told by itself: reading goes on from the next one that stands as it did.
        int at = document.indexOf(text, place);
        if (at >= 0) place = at + text.length();
    }

    /** Calls that show the words that were read last. */
    private static Edge shows(int promise) {
        return edges.of(promise, words);
    }

    // ---- what it is, the face, terms

    private static void whatItIs() {
        next("# BirthdayLot");
        next("## What it is");
        next("Birthdays by lot: each year's are drawn anew, some have three and some none and do not grow older:");
        shows(9).town("p10 0;p20 0;t0 1 0;t1 1 0;").times(3, "draw", 0).people(0, 13, 20).due(0, "told", 3);
        next("people by age as it is counted, tickets in a drum by weight, held, sold, pawned, drawn with return or without,"
            + " rights by age, told in a text with the first fault; years run, draws told or by lot, undone; odds that one has so"
            + " many birthdays, reaches an age, is never drawn; tickets to buy so that a right is likely enough, the cheapest;"
            + " which rule evens better on the same draws; who can wed whom, the most couples; cakes; a weighed drum: which"
            + " ticket is heavy, by draws seen, how likely, what to look for; from candles: which were drawn, all that fits,"
            + " which surely; registers judged; images to go on from.");
        next("An object is used for at most 512 calls after it has been made;");
        shows(5).times(511, "told", 0).due(0, "told", 0);
        next("what later calls answer is free.");
    }

    private static void publicFace() {
        next("## The public face");
        next("```java public final class BirthdayLot {");
        if (document.isEmpty()) return;
        int from = place;
        place = Math.max(place, document.indexOf("## Terms"));
        String face = document.substring(from, place);
        Check check = edges.check();
        check.isTrue("public final class", Modifier.isPublic(BirthdayLot.class.getModifiers()) && Modifier.isFinal(BirthdayLot.class.getModifiers()));
        check.isTrue("public BirthdayLot();", face.contains("public BirthdayLot();") && BirthdayLot.class.getConstructors().length == 1);
        Matcher constants = Pattern.compile("([A-Z]+) = (-\\d+)[,;]").matcher(face);
        int count = 0;
        for (; constants.find(); count++) check.due(constants.group(1), constant(constants.group(1)), Integer.parseInt(constants.group(2)));
        check.due("constants", BirthdayLot.class.getFields().length, count);
        Matcher methods = Pattern.compile("public int (\\w+)\\(([^)]*)\\);").matcher(face);
        for (count = 0; methods.find(); count++) check.isTrue(methods.group(), hasMethod(methods.group(1), methods.group(2)));
        int all = 0;
        for (var method : BirthdayLot.class.getDeclaredMethods()) if (Modifier.isPublic(method.getModifiers())) all++;
        check.due("methods", all, count);
    }

    private static int constant(String name) {
        try {
            return BirthdayLot.class.getField(name).getInt(null);
        } catch (ReflectiveOperationException e) {
            return 0;
        }
    }

    private static boolean hasMethod(String name, String parameters) {
        Class<?>[] ints = new Class<?>[parameters.isEmpty() ? 0 : parameters.split(",").length];
        Arrays.fill(ints, int.class);
        try {
            return BirthdayLot.class.getMethod(name, ints).getReturnType() == int.class;
        } catch (NoSuchMethodException e) {
            return false;
        }
    }

    private static void terms() {
        next("## Terms");
        next("Words in capitals are told where they come first.");
        next("All numbers are whole; / cuts towards 0.");
        shows(9).town("p18 0;t0 1 0;").due(0, "draw", 0).due(2, "person", 0, 1);
        next("What has a number has it from 0 on, as it comes.");
        shows(6).town("p31 0;p42 0;p53 0;t2 4 0;t1 5 0;").people(0, 31, 42, 53).tickets(1, 4, 5);
        next("A SET is a whole number, bit k for k.");
        shows(6).town("p31 0;p42 0;t0 1 0;t1 1 0;t0 1 0;").people(3, 5, 2).due(7, "told", 7);
        next("NONE is -1.");
        shows(7).town("p31 0;t0 1 0;").due(-1, "ticket", 0, 3);
        next("REFUSALS, of several the first in this order: UNKNOWN (a PERSON, TICKET, IMAGE that there is not; bits of such),"
            + " OUTSIDE (another number out of its bounds), NOT (not now, as told), FULL.");
        shows(6).town("p31 0;t0 1 0;").refused(UNKNOWN, "person", 1, 5).refused(OUTSIDE, "person", 0, 5).refused(UNKNOWN, "goBack", 2)
            .refused(NOT, "goBack", 0).times(8, "see", 0).refused(UNKNOWN, "see", 1).refused(FULL, "see", 0);
        shows(10).refused(OUTSIDE, "lots", 0).refused(NOT, "lots", 1);
        next("They are far below all that is counted: -1000000001 and on.");
        shows(8).refused(-1000000002, "right", 4).refused(-1000000001, "ticket", 0, 0).refused(-1000000003, "undo", 1);
        next("What is refused changes nothing.");
        shows(11).town("p31 4;p31 9;t0 1 5;t1 1 5;").due(1, "draw", 1).refused(NOT, "sell", 0, 0).refused(NOT, "undo", 2)
            .refused(NOT, "sell", 1, 0).refused(OUTSIDE, "price", 0, 100).refused(OUTSIDE, "seed", -5);
        next("BILLION is 1000000000.");
        shows(15).town("p31 0;t0 1 0;").due(1000000000, "odds", 0, 4);
    }

    // ---- section 1

    private static void theTown() {
        next("======== 1 THE TOWN is told in a text (250 letters at most), letter by letter: clauses:");
        shows(2).due(1, "feed", 'p').due(2, "feed", '7').due(3, "feed", ' ').due(4, "feed", '8').due(5, "feed", ';').due(1, "town");
        next("'p' A C ';' (6 PEOPLE at most: AGE A 0 .. 99, COINS C 0 .. 999)");
        shows(3).town("p7 8;p70 800;").people(0, 7, 70).people(1, 8, 800);
        shows(3).town("p1 1;p2 2;p3 3;p4 4;p5 5;p6 6;").people(0, 1, 2, 3, 4, 5, 6).due(6, "told", 0);
        next("'t' P W M ';' (8 TICKETS at most: held by PERSON P told ahead; WEIGHT W 1 .. 9; PRICE M 0 .. 99)");
        shows(3).town("p7 8;p70 800;t1 2 30;t0 4 50;").tickets(0, 1, 0).tickets(1, 2, 4).tickets(2, 30, 50).tickets(3, NONE, NONE);
        shows(3).town("p7 8;" + "t0 1 1;".repeat(8)).due(8, "told", 1).due(8, "told", 8);
        next("'y' K R ';' (each YEAR K DRAWS, 1 .. 8, with RETURN R 1, without 0; 4 1 untold; once)");
        shows(3).town("y5 0;").due(5, "told", 5).due(0, "told", 6);
        shows(3).town("p7 8;").due(4, "told", 5).due(1, "told", 6);
        next("'r' A B C D ';' (RIGHTS 0 school, 1 vote, 2 wedding, 3 pension from AGES 0 .. 99 on; 6 18 18 65 untold; once).");
        shows(3).town("r5 16 21 60;").due(5, "right", 0).due(16, "right", 1).due(21, "right", 2).due(60, "right", 3);
        shows(3).town("p7 8;").due(6, "right", 0).due(18, "right", 1).due(18, "right", 2).due(65, "right", 3);
    }

    private static void faults() {
        next("```text NUMBERS have one to three figures;");
        shows(3).town("p7 8;p17 18;p07 108;p007 008;").people(0, 7, 17, 7, 7).people(1, 8, 18, 108, 8);
        next("a word is one letter;");
        shows(3).faulty("pp1 2;", 1, 1).town("p1 2;");
        next("blanks (32) may stand anywhere but within NUMBERS;");
        shows(3).town(" p 1  2 ; t 0 3  4 ;  ").people(0, 1).tickets(2, 4).faulty("p1 2 3;", 1, 5);
        next("two NUMBERS side by side need one.");
        shows(3).town("p12 3;").people(0, 12).faulty("p12;", 1, 3);
        next("FAULTS, at the first letter that has one (the end at the text's length), of these the least:");
        shows(3).faulty("p100 2;x", 2, 1).faulty("p1 2", 1, 4).faulty("p1 2 9999;", 1, 5).faulty("y1 1;y9 1;", 3, 5);
        next("1 it cannot stand there (a letter that is no word).");
        shows(3).faulty("q1 2;", 1, 0).faulty("p1;", 1, 2).faulty(";", 1, 0).faulty("7", 1, 0).faulty("p1 t", 1, 3);
        next("2 a NUMBER of four figures or more, or out of its bounds; a PERSON that was not told yet (at its first).");
        shows(3).faulty("p0001 2;", 2, 1).faulty("p1 2;t0 10 5;", 2, 8).faulty("p1 2;t1 1 5;", 2, 6).faulty("y 4 2;", 2, 4);
        next("3 a seventh 'p', a ninth 't', 'y', 'r' again (at it). ```");
        shows(3).faulty("p1 2;".repeat(6) + "p1 2;", 3, 30).faulty("p1 2;" + "t0 1 2;".repeat(8) + "t0 1 2;", 3, 61)
            .faulty("y1 1;p1 2;y1 1;", 3, 10).faulty("r1 2 3 4;r1 2 3 4;", 3, 9);
    }

    // ---- section 2

    private static void tickets() {
        next("======== 2 A TICKET has a HOLDER, and, PAWNED, a PLEDGEE (a PERSON); who AGES by it is its PLEDGEE, else its HOLDER.");
        shows(12).town("p10 0;p20 0;t0 1 0;").due(0, "draw", 0).due(NONE, "pawn", 0, 1).due(1, "draw", 0).people(0, 11, 21)
            .people(3, 1, 0).people(4, 0, 1).due(0, "ticket", 0, 0).due(1, "ticket", 0, 3);
        next("IN THE DRUM are all at first; without RETURN one that was drawn is OUT until the YEAR ends.");
        shows(9).town("p10 0;t0 1 0;t0 2 0;t0 4 0;y2 0;").due(7, "told", 7).due(7, "told", 8).due(0, "draw", 1).due(5, "told", 7)
            .due(5, "told", 8).refused(NOT, "draw", 1).due(0, "draw", 0).due(7, "told", 7);
        shows(9).town("p10 0;t0 1 0;t0 2 0;y2 1;").due(0, "draw", 1).due(3, "told", 7).due(0, "draw", 1);
        next("YEARS, DRAWS of this YEAR are counted from 0.");
        shows(5).town("p10 0;t0 1 0;").due(0, "told", 3).due(0, "told", 4).due(0, "draw", 0).due(1, "told", 4).times(3, "draw", 0)
            .due(1, "told", 3).due(0, "told", 4);
    }

    private static void draws() {
        next("```text A DRAW of a TICKET that is IN THE DRUM: who AGES by it is a year older (AGE 999 at most)"
            + " and gets a CAKE: AGE / 10 and 1 COINS (by the new AGE; 9999 at most).");
        shows(9).town("p9 5;p49 0;t0 1 0;t1 1 0;").due(0, "draw", 0).people(0, 10, 49).people(1, 7, 0).due(1, "draw", 1).people(1, 7, 6);
        next("Behind K DRAWS (or when none is IN THE DRUM) the YEAR ends: all are IN THE DRUM again, YEARS are one more, DRAWS 0.");
        shows(9).town("p9 5;t0 1 0;t0 1 0;y8 0;").due(0, "draw", 1).due(1, "told", 4).due(0, "draw", 0).due(1, "told", 3)
            .due(0, "told", 4).due(3, "told", 7);
        shows(9).town("p9 5;t0 1 0;t0 1 0;t0 1 0;y2 0;").due(0, "draw", 1).due(0, "draw", 2).due(1, "told", 3).due(7, "told", 7);
        next("BY LOT: THE SEED (0 at first: each draw of it it becomes it times 1103515245 and 12345, left over by 2 to the 31;");
        // The first seeds: 12345, 1406932606, 654583775, 1449466924.
        shows(10).town("p9 5;t0 1 0;").times(1, "lots", 1).due(12345, "seed", 12345).times(1, "lots", 3).due(1449466924, "seed", 0);
        next("the LOT of n is it / 65536, left over by n): a LOT of the WEIGHT that is IN THE DRUM:"
            + " TICKET by TICKET (rising, of those IN THE DRUM) its WEIGHT is taken away, till the LOT would be below 0: that one is drawn.");
        // These / 65536: 0, 21468, 9988, 22117; left over by 4: 0, 0, 0, 1; by 7: 0, 6, 6, 4.
        shows(10).town("p9 5;t0 1 0;t0 3 0;").due(0, "lots", 1).due(0, "lots", 1).due(0, "lots", 1).due(1, "lots", 1);
        shows(10).town("p9 5;t0 4 0;t0 2 0;t0 1 0;").due(0, "lots", 1).due(2, "lots", 1).due(2, "lots", 1).due(1, "lots", 1);
        // Without return, of weights 1 2 4: 0 of 7 is ticket 0; 21468 of 6 is 0, ticket 1; ticket 2 is left.
        shows(10).town("p9 5;t0 1 0;t0 2 0;t0 4 0;y3 0;").due(0, "lots", 1).due(1, "lots", 1).due(2, "lots", 1).due(1, "told", 3);
        next("A RIGHT is had by who has at least its AGE. ```");
        shows(6).town("p17 0;p18 0;p65 0;p5 0;").people(2, 1, 7, 15, 0);
    }

    // ---- section 3

    private static void oddsAndNever() {
        next("======== 3 TRIED from now; nothing changes by it.");
        shows(18).town("p10 40;p20 40;t0 1 5;t1 1 5;y2 0;").due(0, "draw", 0).times(1, "odds", 0, 1).times(1, "never", 0, 1)
            .times(1, "buy", 0, 0, 5, 0).times(1, "evens", 9, 0).times(1, "couples", 9, NONE).times(1, "rows", 4, NONE)
            .times(1, "sure", 4).times(1, "judge").people(0, 11, 20).people(1, 42, 40).due(2, "told", 7).due(1, "told", 13)
            .due(0, "told", 3).due(1, "told", 4).due(0, "seed", 0);
        next("REST: DRAWS that are left of this YEAR.");
        shows(15).town("p10 0;p20 0;t0 1 0;t1 1 0;y2 1;").due(750000000, "odds", 0, 1).due(1, "draw", 1).due(500000000, "odds", 0, 1);
        next("```text ODDS that a PERSON has v birthdays or more in the REST (0 .. 8): of a BILLION:");
        shows(15).town("p10 0;p20 0;t0 1 0;t1 3 0;y2 1;").due(1000000000, "odds", 0, 0).due(437500000, "odds", 0, 1)
            .due(62500000, "odds", 0, 2).due(0, "odds", 0, 3);
        next("with RETURN: by how many: DRAW by DRAW what is there times the WEIGHT of TICKETS by which it AGES"
            + " / all WEIGHT (cut) has one more, the rest not;");
        // 333333333 have one, the rest, 666666667, none; of these 111111111 and 222222222 have one more behind the second draw.
        shows(15).town("p10 0;p20 0;t0 1 0;t1 2 0;y2 1;").due(111111111, "odds", 0, 2).due(333333333 + 222222222, "odds", 0, 1);
        next("without: by SETS of TICKETS IN THE DRUM: DRAW by DRAW what is at one,"
            + " TICKET by TICKET times its WEIGHT / the WEIGHT in the SET (cut).");
        // Of weights 1 1 1 each set of two has 333333333, each of one 2 * 166666666.
        shows(15).town("p10 0;p20 0;t0 1 0;t1 1 0;t1 1 0;y1 0;").due(333333333, "odds", 0, 1).due(666666666, "odds", 1, 1)
            .due(999999999, "odds", 1, 0);
        shows(15).town("p10 0;p20 0;t0 1 0;t1 1 0;t1 1 0;y2 0;").due(4 * 166666666, "odds", 0, 1).due(2 * 166666666, "odds", 1, 2)
            .due(6 * 166666666, "odds", 1, 1);
        next("NEVER: that it has none in n whole YEARS to come (1 .. 99; behind this one): ODDS of none in one YEAR"
            + " (a BILLION less ODDS of 1 or more, all IN THE DRUM, K DRAWS), n times, / BILLION, cut each.");
        shows(16).town("p10 0;p20 0;t0 1 0;t1 1 0;y2 1;").due(250000000, "never", 0, 1).due(0, "draw", 0).due(62500000, "never", 0, 2);
        // Of weights 1 1 1 without return: 666666667, 444444444 (cut), 296296296 (cut).
        shows(16).town("p10 0;p20 0;t0 1 0;t1 1 0;t1 1 0;y1 0;").due(666666667, "never", 0, 1).due(444444444, "never", 0, 2)
            .due(296296296, "never", 0, 3);
    }

    private static void buying() {
        String shop = "p17 50;p40 0;t1 1 10;t1 3 30;t1 4 30;t1 2 10;y1 1;";
        next("BUY: a SET of TICKETS (held by others, not PAWNED) that a PERSON could buy (PRICES together its COINS at most)"
            + " so that ODDS that it has in the REST a RIGHT that it has not yet are x of a hundred or more"
            + " (0 .. 100; BILLION / 100 times x):");
        shows(17).town(shop).due(10, "buy", 0, 1, 10, 0).due(1, "buy", 0, 1, 10, 1).due(NONE, "buy", 0, 1, 71, 0).due(50, "buy", 0, 1, 70, 0)
            .due(13, "buy", 0, 1, 70, 1).due(NONE, "pawn", 2, 1).due(NONE, "buy", 0, 1, 70, 0).due(11, "buy", 0, 1, 60, 1);
        next("of least PRICE, of like ones fewest, then the least SET; (the empty one, if it has it):");
        shows(17).town(shop).due(20, "buy", 0, 1, 30, 0).due(9, "buy", 0, 1, 30, 1).due(30, "buy", 0, 1, 31, 0).due(4, "buy", 0, 1, 31, 1)
            .due(5, "buy", 0, 1, 41, 1).due(12, "buy", 0, 1, 51, 1).due(0, "buy", 0, 0, 100, 0).due(0, "buy", 0, 0, 100, 1);
        shows(17).town("p17 50;p40 0;t1 1 10;t1 1 10;t1 2 20;y1 1;").due(4, "buy", 0, 1, 50, 1).due(1, "buy", 0, 1, 25, 1);
        next("PRICE; which; NONE.");
        shows(17).town(shop).due(0, "buy", 0, 1, 0, 0).due(0, "buy", 0, 1, 0, 1).due(NONE, "buy", 0, 1, 100, 0).due(NONE, "buy", 0, 3, 1, 1);
    }

    private static void evensAndCouples() {
        next("EVENS: from now n YEARS (1 .. 20) by lot, THE SEED as now, once with RETURN, once without"
            + " (this YEAR begun anew, all IN THE DRUM): the SPREAD (greatest AGE less least):"
            + " by which it is less: 1 with, 0 without, 2 alike; the lesser one.");
        // The lots of two: 0, 0, 0, 1. With return ticket 0 is drawn twice, without return each once.
        shows(18).town("p10 0;p20 0;t0 1 0;t1 1 0;y2 1;").due(1, "evens", 1, 0).due(8, "evens", 1, 1);
        shows(18).town("p20 0;p10 0;t0 1 0;t1 1 0;y2 1;").due(0, "evens", 1, 0).due(10, "evens", 1, 1);
        shows(18).town("p20 0;p10 0;t0 1 0;y2 0;").due(0, "evens", 3, 0).due(13, "evens", 3, 1);
        shows(18).town("p20 0;p10 0;t0 1 0;y1 0;").due(2, "evens", 3, 0).due(13, "evens", 3, 1);
        next("COUPLES: the most pairs of PEOPLE who all have the RIGHT to wed, AGES apart by d at most (0 .. 99);");
        shows(19).town("p20 0;p25 0;p30 0;p36 0;").due(0, "couples", 4, NONE).due(1, "couples", 5, NONE).due(2, "couples", 6, NONE);
        shows(19).town("p17 0;p18 0;p18 0;p17 0;").due(1, "couples", 9, NONE).due(NONE, "couples", 9, 0).due(2, "couples", 9, 1);
        next("with whom a PERSON is: of all such sets of pairs the first (PERSON by PERSON the lesser one, none last); NONE.");
        shows(19).town("p20 0;p25 0;p30 0;p36 0;").due(1, "couples", 5, 0).due(0, "couples", 5, 1).due(NONE, "couples", 5, 2)
            .due(3, "couples", 6, 2).due(2, "couples", 6, 3);
        // Were 0 with 2, 1 and 3 would be left alone: the most pairs come first.
        shows(19).town("p30 0;p25 0;p35 0;p40 0;").due(2, "couples", 5, NONE).due(1, "couples", 5, 0).due(3, "couples", 5, 2);
        // 0 cannot have 1, the lesser one, as 2 and 3 are too far apart.
        shows(19).town("p30 0;p30 0;p25 0;p35 0;").due(2, "couples", 5, NONE).due(2, "couples", 5, 0).due(3, "couples", 5, 1);
    }

    private static void heavy() {
        next("DRAWN (8 at most): TICKETS seen drawn one by one, with RETURN, each from all TICKETS.");
        shows(20).town("p9 0;t0 1 0;t0 1 0;y2 0;").due(1, "see", 0).due(2, "see", 0).due(3, "told", 7).due(2, "told", 10);
        next("HEAVY: one of them weighs twice its WEIGHT, or none does, all alike likely ahead (as many and 1):");
        shows(21).town("p9 0;t0 1 0;t0 5 0;t0 9 0;").due(250000, "belief", 0).due(250000, "belief", 2).due(250000, "belief", NONE);
        next("WEIGHT of a guess: DRAW by DRAW times its own WEIGHT (doubled, if it is the guess) / all WEIGHT then,"
            + " as a BILLION at first, cut each time; BELIEF: millionths of all guesses together (0, if they are 0).");
        // 666666666, 333333333 and 500000000; behind the second draw 222222222, 222222222 and 250000000.
        shows(21).town("p9 0;t0 1 0;t0 1 0;").due(1, "see", 0).due(444444, "belief", 0).due(222222, "belief", 1).due(333333, "belief", NONE)
            .due(2, "see", 1).due(319999, "belief", 0).due(319999, "belief", 1).due(360000, "belief", NONE);
        next("LIKELIEST: the guess with the greatest WEIGHT (of like ones the least TICKET, none last).");
        shows(22).town("p9 0;t0 1 0;t0 1 0;").due(0, "likeliest").due(1, "see", 1).due(1, "likeliest").due(2, "see", 0).due(NONE, "likeliest");
    }

    private static void candlesAndBook() {
        String three = "p10 0;p20 0;t0 1 0;t1 1 0;t1 1 0;y2 0;";
        next("CANDLES (a told AGE of each of some PEOPLE, the latest of each; 0 .. 999)"
            + " behind the next m DRAWS (1 .. 4; of this YEAR and on):");
        shows(23).town("p10 0;p20 0;t0 1 0;t1 1 0;").due(1, "candles", 0, 15).due(3, "candles", 1, 21).due(0, "rows", 3, NONE)
            .due(3, "candles", 0, 12).due(3, "rows", 3, NONE);
        next("rows of TICKETS by which it is so: how many; the i-th of the first row;");
        shows(24).town(three).due(6, "rows", 2, NONE).due(0, "rows", 2, 0).due(1, "rows", 2, 1).due(18, "rows", 3, NONE)
            .due(1, "candles", 0, 11).due(4, "rows", 2, NONE).due(1, "candles", 0, 10).due(2, "rows", 2, NONE)
            .due(1, "rows", 2, 0).due(2, "rows", 2, 1);
        next("SURE: TICKETS that are in all such rows (a SET; 0 without).");
        shows(25).town(three).due(1, "candles", 0, 11).due(1, "sure", 2).due(1, "candles", 0, 10).due(6, "sure", 2).due(0, "sure", 1)
            .due(1, "candles", 0, 12).due(0, "sure", 2).due(1, "sure", 3);
        next("THE BOOK (20 at most) tells TICKETS drawn from now: WRONG: the first that could not be; NONE;"
            + " AGE of a PERSON behind all ahead of it.");
        shows(27).town(three).due(1, "write", 1).due(2, "write", 0).due(3, "write", 0).due(NONE, "judge").due(4, "write", 0)
            .due(5, "write", 1).due(3, "judge").due(12, "ageBy", 0).due(21, "ageBy", 1).people(0, 10, 20);
        shows(27).town(three).due(1, "draw", 1).due(1, "write", 1).due(0, "judge").due(21, "ageBy", 1);
    }

    private static void undoneAndImages() {
        String market = "p10 50;p20 50;t0 1 5;t1 1 5;y2 0;";
        next("UNDONE: the latest DRAWS since the text or IMAGE (30 at most are kept),"
            + " with all that was done since (COINS, PRICES too); THE SEED stays.");
        shows(14).town(market).due(0, "draw", 0).due(5, "price", 0, 7).due(43, "sell", 0, 1).due(NONE, "pawn", 1, 0).due(1, "lots", 1)
            .people(0, 12, 20).people(1, 61, 43).due(0, "undo", 1).people(0, 11, 20).people(1, 59, 43).tickets(0, 1, 1).tickets(2, 7, 5)
            .tickets(3, NONE, 0).due(0, "undo", 1).people(0, 10, 20).people(1, 50, 50).tickets(0, 0, 1).tickets(2, 5, 5)
            .tickets(3, NONE, NONE).due(3, "told", 7).due(0, "told", 13).due(12345, "seed", 0);
        next("IMAGES 0, 1 keep all of section 2 (COINS, PRICES too), THE SEED. ```");
        shows(31).town(market).due(0, "seed", 77).due(0, "draw", 0).due(5, "price", 0, 7).due(NONE, "pawn", 1, 0).due(1, "keep", 1)
            .due(43, "sell", 0, 1).due(7, "price", 0, 9).due(0, "pawn", 1, NONE).due(1, "lots", 1).due(1, "told", 3).due(1, "goBack", 1)
            .people(0, 11, 20).people(1, 52, 50).tickets(0, 0, 1).tickets(2, 7, 5).tickets(3, NONE, 0).due(2, "told", 7)
            .due(0, "told", 3).due(1, "told", 4).due(77, "seed", 0);
    }

    private static void interfaceSays() {
        next("Ahead of the calls `feed`, `town`, `fault`, `told`, `person`, `ticket`, `right` the interface says: ---- the town.");
        next("Ahead of the calls `draw`, `lots`, `sell`, `pawn`, `price`, `undo` the interface says: ---- draws.");
        next("Ahead of the calls `odds`, `never`, `buy`, `evens`, `couples` the interface says: ---- tried.");
        next("Ahead of the calls `see`, `belief`, `likeliest`, `candles`, `rows`, `sure`, `write`, `judge`, `ageBy`, `tear`"
            + " the interface says: ---- what was seen.");
        next("Ahead of the calls `seed`, `keep`, `goBack` the interface says: ---- images.");
    }

    // ---- promises 1 to 32

    private static void promisesOfTheTown() {
        next("## Promise 1: A new object `BirthdayLot()`:");
        next("Nobody, no TICKETS.");
        shows(1).due(0, "told", 0).due(0, "told", 1).refused(UNKNOWN, "person", 0, 0).refused(UNKNOWN, "ticket", 0, 0);
        next("## Promise 2: feed `int feed(int letter)`:");
        next("A letter (0 .. 255) comes behind THE TEXT: how many it has. OUTSIDE, FULL (250).");
        shows(2).refused(OUTSIDE, "feed", 256).due(1, "feed", ' ').times(248, "feed", ' ').due(250, "feed", ' ').refused(FULL, "feed", ' ');
        next("## Promise 3: town `int town()`:");
        next("THE TEXT (it is empty then, with a FAULT, too) becomes THE TOWN (YEAR 0, nothing PAWNED; nothing DRAWN was seen,"
            + " no CANDLES, no BOOK; IMAGES, DRAWS to be undone are gone; THE SEED stays): how many PEOPLE;");
        shows(3).town("p10 0;t0 1 0;y1 1;").due(0, "draw", 0).due(NONE, "pawn", 0, 0).due(1, "see", 0).due(1, "candles", 0, 9)
            .due(1, "write", 0).due(1, "keep", 0).due(0, "draw", 0).due(0, "seed", 88).letters("p10 0;p20 0;t1 1 0;").due(2, "town")
            .due(0, "told", 2).due(0, "told", 3).due(0, "told", 10).due(0, "told", 11).due(0, "told", 12).due(0, "told", 13)
            .tickets(3, NONE).tickets(0, 1).refused(NOT, "goBack", 0).due(88, "seed", 88).due(4, "told", 5);
        next("-10 less the number of its FAULT (all is as it was).");
        shows(3).town("p10 0;t0 1 0;").due(0, "draw", 0).due(1, "keep", 0).due(0, "draw", 0).due(1, "see", 0).due(1, "candles", 0, 9)
            .due(1, "write", 0).faulty("p11 0;x", 1, 6).faulty("p11 1000;", 2, 4).faulty("y1 1;y", 3, 5).people(0, 12).due(1, "told", 13);
        next("## Promise 4: fault `int fault()`:");
        next("The letter of the FAULT of the latest town(); NONE.");
        shows(4).due(NONE, "fault").letters("p1 1;?").due(-11, "town").due(5, "fault").letters("p1 1;").due(5, "fault").due(1, "town")
            .due(NONE, "fault");
        next("## Promise 5: told `int told(int what)`:");
        next("0 PEOPLE, 1 TICKETS, 2 letters of THE TEXT, 3 YEARS, 4 DRAWS of this YEAR, 5 K, 6 RETURN, 7 TICKETS IN THE DRUM (a SET),"
            + " 8 all WEIGHT IN THE DRUM, 9 the SPREAD (0 without PEOPLE), 10 DRAWS seen, 11 CANDLES (PEOPLE, a SET),"
            + " 12 lines of THE BOOK, 13 DRAWS that can be undone. OUTSIDE.");
        shows(5).town("p10 0;p25 0;t0 2 0;t1 3 0;t1 4 0;y2 0;").letters("p1").times(1, "draw", 0).times(1, "draw", 1).times(1, "draw", 1)
            .times(2, "see", 0).times(1, "candles", 1, 30).times(4, "write", 0).due(2, "told", 0).due(3, "told", 1).due(2, "told", 2)
            .due(1, "told", 3).due(1, "told", 4).due(2, "told", 5).due(0, "told", 6).due(5, "told", 7).due(6, "told", 8).due(16, "told", 9)
            .due(2, "told", 10).due(2, "told", 11).due(4, "told", 12).due(3, "told", 13).refused(OUTSIDE, "told", 14);
        next("## Promise 6: person `int person(int p, int what)`:");
        next("Of a PERSON: what = 0 AGE, 1 COINS, 2 RIGHTS (a SET), 3 TICKETS held, 4 TICKETS by which it AGES (SETS). UNKNOWN, OUTSIDE.");
        shows(6).town("p18 33;p5 44;t0 1 0;t1 1 0;t0 1 0;").due(NONE, "pawn", 2, 1).people(0, 18, 5).people(1, 33, 44).people(2, 7, 0)
            .people(3, 5, 2).people(4, 1, 6).refused(UNKNOWN, "person", 2, 0).refused(OUTSIDE, "person", 1, 5);
        next("## Promise 7: ticket `int ticket(int t, int what)`:");
        next("Of a TICKET: what = 0 HOLDER, 1 WEIGHT, 2 PRICE, 3 PLEDGEE (NONE). UNKNOWN, OUTSIDE.");
        shows(7).town("p18 33;p5 44;t1 7 60;t0 8 70;").due(NONE, "pawn", 1, 1).tickets(0, 1, 0).tickets(1, 7, 8).tickets(2, 60, 70)
            .tickets(3, NONE, 1).refused(UNKNOWN, "ticket", 2, 0).refused(OUTSIDE, "ticket", 0, 4);
        next("## Promise 8: right `int right(int r)`:");
        next("AGE of a RIGHT (0 .. 3). OUTSIDE.");
        shows(8).town("r7 19 20 66;").due(7, "right", 0).due(19, "right", 1).due(20, "right", 2).due(66, "right", 3).refused(OUTSIDE, "right", 4);
    }

    private static void promisesOfDraws() {
        next("## Promise 9: draw `int draw(int t)`:");
        next("A TICKET is drawn: who AGES (a PERSON). UNKNOWN, NOT: it is OUT;");
        shows(9).town("p10 0;p20 0;t1 1 0;t0 1 0;y2 0;").due(1, "draw", 0).refused(NOT, "draw", 0).refused(UNKNOWN, "draw", 2).people(0, 10, 21);
        // Out of reach in 512 calls: EdgesDrawTest shows it with more.
        next("FULL: YEARS are above 90000.");
        next("## Promise 10: lots `int lots(int n)`:");
        next("n DRAWS BY LOT (1 .. 99): the latest TICKET. OUTSIDE, NOT: no TICKETS;");
        // The lots of two: 0, 0, 0, 1.
        shows(10).town("p10 0;p20 0;t0 1 0;t1 1 0;").due(1, "lots", 4).people(0, 13, 21).due(1, "told", 3).refused(OUTSIDE, "lots", 100);
        shows(10).town("p10 0;").refused(NOT, "lots", 1);
        next("FULL: YEARS are above 90000.");
        next("## Promise 11: sell `int sell(int t, int p)`:");
        next("A TICKET is sold to a PERSON at its PRICE (COINS of both change; 9999 at most): COINS of who has bought."
            + " UNKNOWN, NOT: it holds it, it is PAWNED, not so many COINS.");
        shows(11).town("p10 30;p20 40;t0 1 25;t1 1 41;").due(15, "sell", 0, 1).people(1, 55, 15).tickets(0, 1, 1).refused(NOT, "sell", 0, 1)
            .due(14, "sell", 1, 0).people(1, 14, 56).refused(NOT, "sell", 0, 0).due(25, "price", 0, 14).due(NONE, "pawn", 0, 0)
            .refused(NOT, "sell", 0, 0).due(0, "pawn", 0, NONE).due(0, "sell", 0, 0).refused(UNKNOWN, "sell", 2, 0).refused(UNKNOWN, "sell", 0, 2);
        next("## Promise 12: pawn `int pawn(int t, int p)`:");
        next("A TICKET is PAWNED to a PERSON, or redeemed (NONE): who was PLEDGEE (NONE). UNKNOWN.");
        shows(12).town("p10 0;p20 0;t0 1 0;").due(NONE, "pawn", 0, 1).due(1, "ticket", 0, 3).due(1, "pawn", 0, 0).due(0, "pawn", 0, NONE)
            .due(NONE, "pawn", 0, NONE).due(NONE, "ticket", 0, 3).refused(UNKNOWN, "pawn", 1, 0).refused(UNKNOWN, "pawn", 0, 2);
        next("## Promise 13: price `int price(int t, int m)`:");
        next("A PRICE becomes m (0 .. 99): what it was. UNKNOWN, OUTSIDE.");
        shows(13).town("p10 0;t0 1 33;t0 1 44;").due(44, "price", 1, 55).tickets(2, 33, 55).due(55, "price", 1, 0).refused(UNKNOWN, "price", 2, 0)
            .refused(OUTSIDE, "price", 0, 100);
        next("## Promise 14: undo `int undo(int n)`:");
        next("The n latest DRAWS (1 .. 30) are undone: YEARS. OUTSIDE, NOT: not so many.");
        shows(14).town("p10 0;t0 1 0;y2 1;").times(5, "draw", 0).due(2, "told", 3).due(1, "undo", 2).due(1, "told", 4).people(0, 13)
            .people(1, 6).refused(NOT, "undo", 4).refused(OUTSIDE, "undo", 0).refused(OUTSIDE, "undo", 31).due(0, "undo", 3).people(0, 10);
    }

    private static void promisesOfWhatIsTried() {
        String quarter = "p17 50;p40 0;t0 1 10;t1 3 30;y1 1;";
        next("## Promise 15: odds `int odds(int p, int v)`:");
        next("ODDS. UNKNOWN, OUTSIDE.");
        shows(15).town(quarter).due(250000000, "odds", 0, 1).due(750000000, "odds", 1, 1).due(0, "odds", 1, 2).refused(UNKNOWN, "odds", 2, 1)
            .refused(OUTSIDE, "odds", 0, 9);
        next("## Promise 16: never `int never(int p, int n)`:");
        next("NEVER. UNKNOWN, OUTSIDE.");
        shows(16).town(quarter).due(750000000, "never", 0, 1).due(562500000, "never", 0, 2).due(62500000, "never", 1, 2)
            .refused(UNKNOWN, "never", 2, 1).refused(OUTSIDE, "never", 0, 100);
        next("## Promise 17: buy `int buy(int p, int right, int x, int what)`:");
        next("BUY (right 0 .. 3): what = 0 PRICE, 1 which; NONE. UNKNOWN, OUTSIDE.");
        shows(17).town(quarter).due(0, "buy", 0, 1, 25, 0).due(30, "buy", 0, 1, 26, 0).due(2, "buy", 0, 2, 100, 1).due(NONE, "buy", 0, 3, 1, 0)
            .due(NONE, "buy", 1, 3, 1, 1).refused(UNKNOWN, "buy", 2, 0, 0, 0).refused(OUTSIDE, "buy", 0, 4, 0, 0)
            .refused(OUTSIDE, "buy", 0, 0, 101, 0).refused(OUTSIDE, "buy", 0, 0, 0, 2);
        next("## Promise 18: evens `int evens(int n, int what)`:");
        next("EVENS: what = 0 by which, 1 the lesser SPREAD. OUTSIDE, NOT: nobody, no TICKETS.");
        // The lots of two: 0, 0; 0, 1; 0, 1; 1, 1: three years with return are 4 and 2, the fourth evens.
        shows(18).town("p10 0;p20 0;t0 1 0;t1 1 0;y2 1;").due(1, "evens", 3, 0).due(8, "evens", 3, 1).due(2, "evens", 4, 0)
            .due(10, "evens", 4, 1).refused(OUTSIDE, "evens", 21, 0).refused(OUTSIDE, "evens", 1, 2);
        shows(18).refused(NOT, "evens", 1, 0).town("p10 0;").refused(NOT, "evens", 1, 0);
        next("## Promise 19: couples `int couples(int d, int p)`:");
        next("COUPLES: p = NONE how many, else with whom; NONE. UNKNOWN, OUTSIDE.");
        shows(19).town("p50 0;p20 0;p53 0;").due(1, "couples", 3, NONE).due(2, "couples", 3, 0).due(NONE, "couples", 3, 1)
            .due(0, "couples", 3, 2).due(0, "couples", 2, NONE).refused(UNKNOWN, "couples", 3, 3).refused(OUTSIDE, "couples", 100, 0);
    }

    private static void promisesOfWhatWasSeen() {
        String two = "p10 0;p20 0;t0 1 0;t1 1 0;y2 0;";
        next("## Promise 20: see `int see(int t)`:");
        next("A TICKET seen DRAWN: how many. UNKNOWN, FULL (8).");
        shows(20).town(two).due(1, "see", 1).refused(UNKNOWN, "see", 2).times(6, "see", 0).due(8, "see", 1).refused(FULL, "see", 0);
        next("## Promise 21: belief `int belief(int t)`:");
        next("BELIEF in a TICKET (or NONE) being HEAVY. UNKNOWN.");
        shows(21).town(two).due(1, "see", 1).due(222222, "belief", 0).due(444444, "belief", 1).due(333333, "belief", NONE)
            .refused(UNKNOWN, "belief", 2).refused(UNKNOWN, "belief", -2);
        next("## Promise 22: likeliest `int likeliest()`:");
        next("LIKELIEST (NONE: none is).");
        shows(22).town(two).due(1, "see", 1).due(1, "likeliest").due(2, "see", 0).due(NONE, "likeliest").due(3, "see", 0).due(0, "likeliest");
        next("## Promise 23: candles `int candles(int p, int age)`:");
        next("CANDLES of a PERSON (0 .. 999): PEOPLE told (a SET). UNKNOWN, OUTSIDE.");
        shows(23).town(two).due(2, "candles", 1, 21).due(2, "candles", 1, 22).due(3, "candles", 0, 10).refused(UNKNOWN, "candles", 2, 9)
            .refused(OUTSIDE, "candles", 0, 1000);
        next("## Promise 24: rows `int rows(int m, int i)`:");
        next("Rows of m DRAWS: i = NONE how many, else the i-th of the first; NONE. OUTSIDE, NOT: no TICKETS.");
        shows(24).town(two).due(2, "candles", 1, 21).due(2, "rows", 2, NONE).due(0, "rows", 2, 0).due(1, "rows", 2, 1).due(2, "rows", 3, NONE)
            .due(1, "rows", 3, 1).due(0, "rows", 3, 2).due(NONE, "rows", 3, 3).due(2, "candles", 1, 23).due(0, "rows", 4, NONE)
            .due(NONE, "rows", 4, 0).refused(OUTSIDE, "rows", 5, NONE).refused(OUTSIDE, "rows", 0, 0);
        shows(24).town("p10 0;").refused(NOT, "rows", 1, NONE);
        next("## Promise 25: sure `int sure(int m)`:");
        next("SURE. OUTSIDE, NOT: no TICKETS.");
        shows(25).town(two).due(0, "sure", 1).due(3, "sure", 2).due(2, "candles", 1, 21).due(2, "sure", 1).refused(OUTSIDE, "sure", 0);
        shows(25).town("p10 0;").refused(NOT, "sure", 1);
        next("## Promise 26: write `int write(int t)`:");
        next("A TICKET behind THE BOOK: how many. UNKNOWN, FULL (20).");
        shows(26).town(two).due(1, "write", 0).times(18, "write", 1).refused(UNKNOWN, "write", 2).due(20, "write", 0).refused(FULL, "write", 0);
        next("## Promise 27: judge `int judge()`:");
        next("WRONG; NONE.");
        shows(27).town(two).due(NONE, "judge").due(1, "write", 0).due(2, "write", 1).due(NONE, "judge").due(3, "write", 1).due(4, "write", 1)
            .due(3, "judge");
        next("## Promise 28: ageBy `int ageBy(int p)`:");
        next("AGE of a PERSON behind THE BOOK (up to WRONG). UNKNOWN.");
        shows(28).town(two).due(20, "ageBy", 1).due(1, "write", 0).due(2, "write", 1).due(21, "ageBy", 1).due(3, "write", 1).due(22, "ageBy", 1)
            .due(4, "write", 1).due(22, "ageBy", 1).due(5, "write", 0).due(11, "ageBy", 0).refused(UNKNOWN, "ageBy", 2);
        next("## Promise 29: tear `int tear()`:");
        next("Nothing DRAWN was seen, no CANDLES, no BOOK: how many there were (PEOPLE with CANDLES counted).");
        shows(29).town(two).times(2, "see", 1).times(3, "candles", 1, 50).times(4, "write", 0).due(7, "tear").due(0, "told", 10).due(0, "told", 11)
            .due(0, "told", 12).due(0, "tear");
    }

    private static void promisesOfImages() {
        String two = "p10 0;p20 0;t0 1 0;t1 1 0;y2 0;";
        next("## Promise 30: seed `int seed(int v)`:");
        next("THE SEED becomes v (0 .. 2147483647): what it was. OUTSIDE.");
        // From 1406932606 on: 654583775, 9988 of two is 0; from 654583775 on: 22117 of two is 1.
        shows(30).town(two).due(0, "seed", 1406932606).due(0, "lots", 1).due(654583775, "seed", 5).due(5, "seed", 2147483647)
            .refused(OUTSIDE, "seed", -1).due(2147483647, "seed", 0);
        shows(30).town(two).due(0, "seed", 654583775).due(1, "lots", 1);
        next("## Promise 31: keep `int keep(int i)`:");
        next("IMAGE i becomes what is so (nothing can be undone then): 1. UNKNOWN.");
        shows(31).town(two).due(0, "draw", 0).due(1, "keep", 0).due(0, "told", 13).refused(NOT, "undo", 1).due(1, "draw", 1).due(1, "keep", 1)
            .due(1, "goBack", 0).people(0, 11, 20).due(1, "goBack", 1).people(0, 11, 21).refused(UNKNOWN, "keep", 2);
        next("## Promise 32: goBack `int goBack(int i)`:");
        next("What is so becomes IMAGE i (nothing can be undone then): 1. UNKNOWN, NOT: it was not kept.");
        shows(32).town(two).due(1, "keep", 1).due(0, "draw", 0).refused(NOT, "goBack", 0).refused(UNKNOWN, "goBack", 2).due(1, "goBack", 1)
            .people(0, 10, 20).due(0, "told", 13).refused(NOT, "undo", 1).due(1, "draw", 1).due(1, "goBack", 1).people(0, 10, 20);
    }

    private static void notPromised() {
        next("## Not promised");
        next("How the state is held inside the object is free, as are the speed of each call, the text of toString and the behaviour"
            + " of equals and hashCode. Use of one object from several threads at once is not promised to be safe. Nothing is promised"
            + " beyond the answers and state changes described above, and nothing about an object after its 512th call.");
    }
}
