/** The boundary cases of promises 30 to 32, sentence by sentence: THE SEED and the images. */
public final class EdgesImagesTest {
    private static final int NONE = Check.NONE, UNKNOWN = Check.UNKNOWN, OUTSIDE = Check.OUTSIDE, NOT = Check.NOT;
    private static final int MIN = Integer.MIN_VALUE, MAX = Integer.MAX_VALUE;
    private static final String TEXT = "p19 50;p29 50;t0 1 4;t1 1 5;y2 0;";

    private static final Edges edges = new Edges("EdgesImagesTest", 30, 32);

    public static void main(String[] args) {
        seed();
        keep();
        goBack();
        whatIsKept();
        edges.end();
    }

    private static Edge edge(int promise, String sentence) {
        return edges.of(promise, sentence);
    }

    // ---- promise 30

    private static void seed() {
        edge(30, "THE SEED becomes v (0 .. 2147483647): what it was. OUTSIDE.").town(TEXT).due(0, "seed", 7).refused(OUTSIDE, "seed", -1)
            .refused(OUTSIDE, "seed", MIN).due(7, "seed", 0).due(0, "seed", MAX).due(MAX, "seed", 0).due(0, "seed", 0);
        edge(30, "THE SEED becomes v (0 .. 2147483647): what it was. OUTSIDE.").due(0, "seed", 5).town(TEXT).due(5, "seed", 5);
        // The same SEED brings the same LOTS.
        edge(30, "THE SEED becomes v").town("p1 1;t0 1 0;t0 2 0;t0 3 0;y8 1;").times(1, "seed", 39).times(1, "lots", 7)
            .times(1, "seed", 0).due(0, "lots", 1).due(0, "lots", 1).due(2, "lots", 1).due(1, "lots", 1).times(1, "seed", 0)
            .due(1, "lots", 4);
    }

    // ---- promise 31

    private static void keep() {
        edge(31, "IMAGE i becomes what is so (nothing can be undone then): 1. UNKNOWN.").town(TEXT).times(1, "lots", 3)
            .refused(UNKNOWN, "keep", -1).refused(UNKNOWN, "keep", 2).refused(UNKNOWN, "keep", MIN).refused(UNKNOWN, "keep", MAX)
            .due(3, "told", 13).due(1, "keep", 0).due(1, "keep", 1).due(0, "told", 13);
        edge(31, "(nothing can be undone then)").town(TEXT).times(1, "lots", 3).due(1, "keep", 1).due(0, "told", 13)
            .refused(NOT, "undo", 1).due(1, "told", 3).due(1, "told", 4).times(1, "lots", 1).due(1, "undo", 1).refused(NOT, "undo", 1);
        edge(31, "UNKNOWN (a PERSON, TICKET, IMAGE that there is not").due(1, "keep", 0).due(1, "keep", 1).refused(UNKNOWN, "keep", 2)
            .refused(UNKNOWN, "keep", -1);
        // The later image takes the place of the earlier; the other one stays.
        edge(31, "IMAGE i becomes what is so").town(TEXT).due(1, "keep", 0).due(1, "keep", 1).due(0, "draw", 0).due(1, "keep", 1)
            .due(1, "goBack", 0).people(0, 19, 29).due(3, "told", 7).due(1, "goBack", 1).people(0, 20, 29).due(2, "told", 7)
            .due(1, "goBack", 0).people(0, 19, 29);
    }

    // ---- promise 32

    private static void goBack() {
        edge(32, "What is so becomes IMAGE i (nothing can be undone then): 1. UNKNOWN, NOT: it was not kept.").town(TEXT)
            .times(1, "lots", 3).refused(UNKNOWN, "goBack", -1).refused(UNKNOWN, "goBack", 2).refused(UNKNOWN, "goBack", MIN)
            .refused(UNKNOWN, "goBack", MAX).due(3, "told", 13);
        edge(32, "NOT: it was not kept").town(TEXT).times(1, "lots", 3).refused(NOT, "goBack", 0).refused(NOT, "goBack", 1)
            .due(3, "told", 13).due(1, "keep", 1).refused(NOT, "goBack", 0).due(1, "goBack", 1).due(1, "told", 3);
        edge(32, "of several the first in this order").town(TEXT).refused(UNKNOWN, "goBack", 2).refused(UNKNOWN, "goBack", -1)
            .refused(NOT, "goBack", 1);
        edge(32, "NOT: it was not kept").town(TEXT).due(1, "keep", 0).due(1, "keep", 1).town(TEXT).refused(NOT, "goBack", 0)
            .refused(NOT, "goBack", 1).due(1, "keep", 0).due(1, "goBack", 0).refused(NOT, "goBack", 1);
        edge(32, "(nothing can be undone then)").town(TEXT).due(1, "keep", 0).times(1, "lots", 5).due(5, "told", 13).due(1, "goBack", 0)
            .due(0, "told", 13).refused(NOT, "undo", 1).times(1, "lots", 2).due(2, "told", 13).due(0, "undo", 2)
            .refused(NOT, "undo", 1);
        // An image can be gone back to again and again, and an undo does not touch it.
        edge(32, "What is so becomes IMAGE i").town(TEXT).due(0, "draw", 0).due(1, "keep", 0).due(1, "draw", 1).due(1, "goBack", 0)
            .people(0, 20, 29).due(1, "draw", 1).due(0, "undo", 1).due(1, "goBack", 0).people(0, 20, 29).due(2, "told", 7)
            .due(1, "told", 4);
        edge(32, "IMAGES 0, 1 keep all of section 2").due(1, "keep", 1).due(0, "seed", 9).due(1, "goBack", 1).due(0, "seed", 0)
            .due(0, "told", 0);
    }

    private static void whatIsKept() {
        edge(32, "IMAGES 0, 1 keep all of section 2 (COINS, PRICES too), THE SEED").town(TEXT).due(0, "draw", 0).due(NONE, "pawn", 1, 0)
            .due(4, "price", 0, 33).due(0, "seed", 77).due(1, "keep", 0).due(0, "draw", 1).due(0, "pawn", 1, NONE).due(17, "sell", 0, 1)
            .due(33, "price", 0, 1).due(77, "seed", 88).due(1, "draw", 0).people(0, 21, 30).due(1, "goBack", 0).people(0, 20, 29)
            .people(1, 53, 50).tickets(0, 0, 1).tickets(2, 33, 5).tickets(3, NONE, 0).due(0, "told", 3).due(1, "told", 4)
            .due(2, "told", 7).due(77, "seed", 0);
        // What was seen is of section 3, THE TEXT of section 1: going back leaves them as they are.
        edge(32, "IMAGES 0, 1 keep all of section 2").town(TEXT).due(1, "keep", 0).due(1, "see", 0).due(1, "candles", 0, 20)
            .due(1, "write", 1).letters("p1 1;").due(1, "goBack", 0).due(1, "told", 10).due(1, "told", 11).due(1, "told", 12)
            .due(5, "told", 2).due(3, "tear").due(1, "town");
        // AGES, COINS and YEARS at their bounds come back whole.
        edge(32, "IMAGES 0, 1 keep all of section 2").town("p99 999;t0 1 99;y1 1;").times(10, "lots", 99).due(1, "keep", 1)
            .due(0, "draw", 0).due(99, "price", 0, 0).due(1, "goBack", 1).people(0, 999).people(1, 9999).tickets(2, 99)
            .due(990, "told", 3);
    }
}
