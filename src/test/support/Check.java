/** Counts the answers that are not the ones that are due. */
public final class Check {
    public static final int NONE = -1, UNKNOWN = -1000000001, OUTSIDE = -1000000002, NOT = -1000000003, FULL = -1000000004;

    private final String name;
    private int asked;
    private int wrong;

    public Check(String name) {
        this.name = name;
    }

    public void due(String call, long got, long want) {
        asked++;
        if (got == want) return;
        wrong++;
        if (wrong <= 40) System.out.println(name + ": " + call + " answered " + got + ", due is " + want);
    }

    public void isTrue(String what, boolean holds) {
        due(what, holds ? 1 : 0, 1);
    }

    public static void feedAll(BirthdayLot lot, String text) {
        for (int i = 0; i < text.length(); i++) lot.feed(text.charAt(i));
    }

    public static BirthdayLot townOf(String text) {
        BirthdayLot lot = new BirthdayLot();
        feedAll(lot, text);
        if (lot.town() < 0) throw new IllegalStateException("no town: " + text + " at " + lot.fault());
        return lot;
    }

    /** All that can be seen of an object without changing it, as one text. */
    public static String seen(BirthdayLot lot) {
        StringBuilder all = new StringBuilder();
        for (int what = 0; what <= 13; what++) all.append(lot.told(what)).append(' ');
        all.append('f').append(lot.fault());
        for (int r = 0; r < 4; r++) all.append(" r").append(lot.right(r));
        for (int p = 0; p < lot.told(0); p++) {
            all.append(" p").append(p).append(':');
            for (int what = 0; what < 5; what++) all.append(lot.person(p, what)).append(',');
            all.append(lot.ageBy(p));
        }
        for (int t = 0; t < lot.told(1); t++) {
            all.append(" t").append(t).append(':');
            for (int what = 0; what < 4; what++) all.append(lot.ticket(t, what)).append(',');
            all.append(lot.belief(t));
        }
        all.append(" j").append(lot.judge());
        int seed = lot.seed(0);
        lot.seed(seed);
        return all.append(" s").append(seed).toString();
    }

    public void end() {
        System.out.println(name + ": " + asked + " answers, " + wrong + " not as due");
        if (wrong != 0 || asked == 0) System.exit(1);
    }
}
