import java.util.Random;

/** All promises: long runs of calls, right and wrong ones, beside the plain model of the document. */
public final class ModelTest {
    private static final Check check = new Check("ModelTest");
    private static final int RUNS = 1500, CALLS = 512;
    private static final String[] NAMES = {"feed", "town", "fault", "told", "person", "ticket", "right", "draw", "lots", "sell",
        "pawn", "price", "undo", "odds", "never", "buy", "evens", "couples", "see", "belief", "likeliest", "candles", "rows",
        "sure", "write", "judge", "ageBy", "tear", "seed", "keep", "goBack"};

    private static BirthdayLot lot;
    private static Model model;
    private static Random random;
    private static int calls;
    private static int run;

    public static void main(String[] args) {
        for (run = 0; run < RUNS; run++) {
            random = new Random(run);
            lot = new BirthdayLot();
            model = new Model();
            calls = 0;
            if (run % 3 == 0) faultyTexts();
            else liveTown();
        }
        check.end();
    }

    private static int both(String name, int a, int b, int c, int d) {
        calls++;
        int got = Calls.ask(lot, name, a, b, c, d);
        check.due("run " + run + ", call " + calls + ": " + name + "(" + a + ", " + b + ", " + c + ", " + d + ")", got,
            model.call(name, a, b, c, d));
        return got;
    }

    private static void tell(String text) {
        for (int i = 0; i < text.length(); i++) both("feed", text.charAt(i), 0, 0, 0);
        both("town", 0, 0, 0, 0);
        both("fault", 0, 0, 0, 0);
    }

    /** Short texts, mostly right, with a sign put in, left out or changed. */
    private static void faultyTexts() {
        String signs = "ptyr;; 0123456789x";
        while (calls < CALLS - 120) {
            StringBuilder text = new StringBuilder(randomTown(3, 3));
            for (int i = random.nextInt(3); i > 0 && text.length() > 0; i--) {
                int at = random.nextInt(text.length());
                char sign = signs.charAt(random.nextInt(signs.length()));
                int how = random.nextInt(3);
                if (how == 0) text.setCharAt(at, sign);
                else if (how == 1) text.insert(at, sign);
                else text.deleteCharAt(at);
            }
            if (random.nextInt(5) == 0) text.setLength(random.nextInt(text.length() + 1));
            tell(text.length() > 100 ? text.substring(0, 100) : text.toString());
            for (int what = 0; what < 14; what++) both("told", what, 0, 0, 0);
        }
    }

    /** Now and then nothing is told at all, or a town of nobody. */
    private static void liveTown() {
        int people = random.nextInt(12) == 0 ? 0 : 1 + random.nextInt(6);
        if (random.nextInt(20) != 0) tell(randomTown(people, people == 0 ? 0 : random.nextInt(9)));
        if (random.nextInt(20) == 0) for (int i = 0; i < 12; i++) both("lots", 99, 0, 0, 0);
        int dear = 12;
        while (calls < CALLS) {
            String name = NAMES[random.nextInt(NAMES.length)];
            // A new town, or the slow model's dearest calls, only now and then.
            if ((name.equals("town") || name.equals("feed") || name.equals("tear")) && random.nextInt(8) != 0) continue;
            if (name.equals("buy") || name.equals("rows") || name.equals("sure")) {
                if (dear == 0) continue;
                dear--;
            }
            int[] a = arguments(name);
            int got = both(name, a[0], a[1], a[2], a[3]);
            if (got <= Check.UNKNOWN) both("told", random.nextInt(14), 0, 0, 0);
        }
    }

    private static int near(int least, int most) {
        if (random.nextInt(12) == 0) return random.nextBoolean() ? least - 1 : most + 1;
        if (random.nextInt(200) == 0) return random.nextBoolean() ? Integer.MIN_VALUE : Integer.MAX_VALUE;
        return least + random.nextInt(most - least + 1);
    }

    private static int somebody() {
        return near(0, Math.max(0, lot.told(0) - 1));
    }

    private static int someTicket() {
        return near(0, Math.max(0, lot.told(1) - 1));
    }

    private static int[] arguments(String name) {
        int p = somebody();
        int t = someTicket();
        switch (name) {
            case "feed": return new int[] {near(0, 255), 0, 0, 0};
            case "told": return new int[] {near(0, 13), 0, 0, 0};
            case "person": return new int[] {p, near(0, 4), 0, 0};
            case "ticket": return new int[] {t, near(0, 3), 0, 0};
            case "right": return new int[] {near(0, 3), 0, 0, 0};
            case "lots": return new int[] {random.nextInt(3) == 0 ? near(1, 99) : near(1, 4), 0, 0, 0};
            case "sell": return new int[] {t, p, 0, 0};
            case "pawn": return new int[] {t, random.nextInt(3) == 0 ? -1 : p, 0, 0};
            case "price": return new int[] {t, random.nextBoolean() ? near(0, 99) : near(0, 5), 0, 0};
            case "undo": return new int[] {random.nextBoolean() ? near(1, 30) : near(1, 4), 0, 0, 0};
            case "odds": return new int[] {p, random.nextBoolean() ? near(0, 8) : near(0, 3), 0, 0};
            case "never": return new int[] {p, random.nextBoolean() ? near(1, 99) : near(1, 5), 0, 0};
            case "buy": return new int[] {p, near(0, 3), near(0, 100), near(0, 1)};
            case "evens": return new int[] {near(1, 20), near(0, 1), 0, 0};
            case "couples": return new int[] {random.nextBoolean() ? near(0, 99) : near(0, 9), random.nextBoolean() ? -1 : p, 0, 0};
            case "belief": return new int[] {random.nextInt(4) == 0 ? -1 : t, 0, 0, 0};
            case "candles": return new int[] {p, ageNear(p), 0, 0};
            case "rows": return new int[] {near(1, 4), near(-1, 4), 0, 0};
            case "sure": return new int[] {near(1, 4), 0, 0, 0};
            case "seed": return new int[] {random.nextInt(4) == 0 ? -1 : random.nextInt() >>> 1, 0, 0, 0};
            case "keep": case "goBack": return new int[] {near(0, 1), 0, 0, 0};
            case "ageBy": return new int[] {p, 0, 0, 0};
            default: return new int[] {t, 0, 0, 0};
        }
    }

    private static int ageNear(int p) {
        if (p < 0 || p >= lot.told(0) || random.nextInt(15) == 0) return near(0, 999);
        return Math.min(999, lot.person(p, 0) + random.nextInt(3));
    }

    private static String randomTown(int people, int tickets) {
        StringBuilder text = new StringBuilder();
        int around = random.nextInt(90);
        if (random.nextBoolean()) text.append("y").append(1 + random.nextInt(8)).append(' ').append(random.nextInt(2)).append(';');
        for (int p = 0; p < people; p++) {
            text.append('p').append(around + random.nextInt(10)).append(' ').append(random.nextInt(random.nextBoolean() ? 1000 : 20)).append(';');
        }
        int heaviest = 1 + random.nextInt(9);
        int dearest = 1 + random.nextInt(99);
        for (int t = 0; t < tickets; t++) {
            text.append('t').append(random.nextInt(people)).append(random.nextBoolean() ? " " : "  ");
            text.append(1 + random.nextInt(heaviest)).append(' ').append(random.nextInt(dearest)).append(';');
        }
        if (random.nextBoolean()) {
            text.append('r');
            for (int r = 0; r < 4; r++) text.append(' ').append(Math.min(99, around + random.nextInt(14)));
            text.append(';');
        }
        return text.toString();
    }
}
