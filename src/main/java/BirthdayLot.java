import java.util.Arrays;

/**
 * A town whose birthdays are drawn by lot. Every number that a call can get is looked at first;
 * what is refused is answered by UNKNOWN, OUTSIDE, NOT or FULL and changes nothing.
 */
public final class BirthdayLot {
    public static final int NONE = -1, UNKNOWN = -1000000001, OUTSIDE = -1000000002, NOT = -1000000003, FULL = -1000000004;

    private static final int MOST_PEOPLE = 6, MOST_TICKETS = 8, MOST_LETTERS = 250;
    private static final int OLDEST = 999, RICHEST = 9999, DEAREST = 99;
    private static final int MOST_DRAWS = 8, LAST_YEAR = 90000, MOST_LOTS = 99, MOST_UNDONE = 30;
    private static final int RIGHTS = 4, WEDDING = 2;
    private static final int MOST_SEEN = 8, MOST_LINES = 20, MOST_IMAGES = 2, LONGEST_ROW = 4;
    private static final long BILLION = 1000000000L, MILLION = 1000000L;

    private final int[] letters;
    private final Reader reader;
    private final Rules rules;
    private final Moment now;
    private final Past past;
    private final Images images;
    private final Chances chances;
    private final Weddings weddings;
    private final Scale scale;
    private final Candles lit;
    private final Book book;
    private final int[] trialAge;
    private int length;
    private int faultAt;
    private int lotSeed;

    public BirthdayLot() {
        letters = new int[MOST_LETTERS];
        reader = new Reader();
        rules = new Rules();
        now = new Moment();
        past = new Past();
        images = new Images();
        chances = new Chances();
        weddings = new Weddings();
        scale = new Scale();
        lit = new Candles();
        book = new Book();
        trialAge = new int[MOST_PEOPLE];
        length = 0;
        faultAt = NONE;
        lotSeed = 0;
    }

    // ---- the town

    public int feed(int letter) {
        if (letter < 0 || letter > 255) return OUTSIDE;
        if (length >= MOST_LETTERS) return FULL;
        letters[length] = letter;
        length++;
        return length;
    }

    public int town() {
        int kind = reader.read(letters, length);
        length = 0;
        faultAt = reader.faultAt;
        if (kind != 0) return -10 - kind;
        rules.copyFrom(reader.rules);
        now.copyFrom(reader.start);
        forgetSeen();
        past.clear();
        images.clear();
        return rules.people;
    }

    public int fault() {
        return faultAt;
    }

    public int told(int what) {
        switch (what) {
            case 0: return rules.people;
            case 1: return rules.tickets;
            case 2: return length;
            case 3: return now.years;
            case 4: return now.draws;
            case 5: return rules.perYear;
            case 6: return rules.withReturn ? 1 : 0;
            case 7: return now.drum;
            case 8: return rules.weightOf(now.drum);
            case 9: return spreadOf(now.age, rules.people);
            case 10: return scale.seen;
            case 11: return lit.people;
            case 12: return book.lines;
            case 13: return past.kept;
            default: return OUTSIDE;
        }
    }

    public int person(int p, int what) {
        if (!isPerson(p)) return UNKNOWN;
        switch (what) {
            case 0: return now.age[p];
            case 1: return now.coins[p];
            case 2: return rules.rightsAt(now.age[p]);
            case 3: return now.heldBy(p, rules.tickets);
            case 4: return now.agingFor(p, rules.tickets);
            default: return OUTSIDE;
        }
    }

    public int ticket(int t, int what) {
        if (!isTicket(t)) return UNKNOWN;
        switch (what) {
            case 0: return now.holder[t];
            case 1: return rules.weight[t];
            case 2: return now.price[t];
            case 3: return now.pledgee[t];
            default: return OUTSIDE;
        }
    }

    public int right(int r) {
        if (!isRight(r)) return OUTSIDE;
        return rules.rightAge[r];
    }

    // ---- draws

    public int draw(int t) {
        if (!isTicket(t)) return UNKNOWN;
        if (!holds(now.drum, t)) return NOT;
        if (now.years > LAST_YEAR) return FULL;
        return drawTicket(t);
    }

    public int lots(int n) {
        if (n < 1 || n > MOST_LOTS) return OUTSIDE;
        if (rules.tickets == 0) return NOT;
        if (now.years > LAST_YEAR) return FULL;
        int latest = NONE;
        for (int i = 0; i < n; i++) {
            lotSeed = nextSeed(lotSeed);
            latest = rules.ticketAt(now.drum, lotOf(lotSeed, rules.weightOf(now.drum)));
            drawTicket(latest);
        }
        return latest;
    }

    public int sell(int t, int p) {
        if (!isTicket(t) || !isPerson(p)) return UNKNOWN;
        int seller = now.holder[t];
        int cost = now.price[t];
        if (seller == p || now.pledgee[t] != NONE || now.coins[p] < cost) return NOT;
        now.coins[p] -= cost;
        if (isPerson(seller)) now.coins[seller] = Math.min(RICHEST, now.coins[seller] + cost);
        now.holder[t] = p;
        return now.coins[p];
    }

    public int pawn(int t, int p) {
        if (!isTicket(t) || !isPersonOrNone(p)) return UNKNOWN;
        int before = now.pledgee[t];
        now.pledgee[t] = p;
        return before;
    }

    public int price(int t, int m) {
        if (!isTicket(t)) return UNKNOWN;
        if (m < 0 || m > DEAREST) return OUTSIDE;
        int before = now.price[t];
        now.price[t] = m;
        return before;
    }

    public int undo(int n) {
        if (n < 1 || n > MOST_UNDONE) return OUTSIDE;
        if (n > past.kept) return NOT;
        past.takeBack(n, now);
        return now.years;
    }

    // ---- tried

    public int odds(int p, int v) {
        if (!isPerson(p)) return UNKNOWN;
        if (v < 0 || v > MOST_DRAWS) return OUTSIDE;
        chances.begin(rules, now.drum, rules.perYear - now.draws);
        return (int) chances.atLeast(rules, now.agingFor(p, rules.tickets), v);
    }

    public int never(int p, int n) {
        if (!isPerson(p)) return UNKNOWN;
        if (n < 1 || n > 99) return OUTSIDE;
        chances.begin(rules, rules.everyTicket(), rules.perYear);
        long none = BILLION - chances.atLeast(rules, now.agingFor(p, rules.tickets), 1);
        long all = BILLION;
        for (int i = 0; i < n; i++) all = all * none / BILLION;
        return (int) all;
    }

    public int buy(int p, int right, int x, int what) {
        if (!isPerson(p)) return UNKNOWN;
        if (!isRight(right) || x < 0 || x > 100 || what < 0 || what > 1) return OUTSIDE;
        int set = cheapest(p, rules.rightAge[right] - now.age[p], BILLION / 100 * x);
        if (set == NONE || what == 1) return set;
        return now.priceOf(set);
    }

    public int evens(int n, int what) {
        if (n < 1 || n > 20 || what < 0 || what > 1) return OUTSIDE;
        if (rules.people == 0 || rules.tickets == 0) return NOT;
        int with = spreadAfter(n, true);
        int without = spreadAfter(n, false);
        if (what == 1) return Math.min(with, without);
        if (with == without) return 2;
        return with < without ? 1 : 0;
    }

    public int couples(int d, int p) {
        if (!isPersonOrNone(p)) return UNKNOWN;
        if (d < 0 || d > 99) return OUTSIDE;
        weddings.match(rules, now, d);
        return p == NONE ? weddings.pairs : weddings.partner[p];
    }

    // ---- what was seen

    public int see(int t) {
        if (!isTicket(t)) return UNKNOWN;
        if (scale.seen >= MOST_SEEN) return FULL;
        return scale.add(t);
    }

    public int belief(int t) {
        if (t != NONE && !isTicket(t)) return UNKNOWN;
        return scale.millionths(rules, t);
    }

    public int likeliest() {
        return scale.heaviest(rules);
    }

    public int candles(int p, int age) {
        if (!isPerson(p)) return UNKNOWN;
        if (age < 0 || age > OLDEST) return OUTSIDE;
        return lit.light(p, age);
    }

    public int rows(int m, int i) {
        if (m < 1 || m > LONGEST_ROW) return OUTSIDE;
        if (rules.tickets == 0) return NOT;
        lit.search(rules, now, m);
        return i == NONE ? lit.found : lit.firstAt(i);
    }

    public int sure(int m) {
        if (m < 1 || m > LONGEST_ROW) return OUTSIDE;
        if (rules.tickets == 0) return NOT;
        lit.search(rules, now, m);
        return lit.found == 0 ? 0 : lit.inAll;
    }

    public int write(int t) {
        if (!isTicket(t)) return UNKNOWN;
        if (book.lines >= MOST_LINES) return FULL;
        return book.add(t);
    }

    public int judge() {
        return book.wrong(rules, now);
    }

    public int ageBy(int p) {
        if (!isPerson(p)) return UNKNOWN;
        return book.ageBehind(rules, now, p);
    }

    public int tear() {
        int torn = scale.seen + Integer.bitCount(lit.people) + book.lines;
        forgetSeen();
        return torn;
    }

    // ---- images

    public int seed(int v) {
        if (v < 0) return OUTSIDE;
        int before = lotSeed;
        lotSeed = v;
        return before;
    }

    public int keep(int i) {
        if (i < 0 || i >= MOST_IMAGES) return UNKNOWN;
        images.store(i, now, lotSeed);
        past.clear();
        return 1;
    }

    public int goBack(int i) {
        if (i < 0 || i >= MOST_IMAGES) return UNKNOWN;
        if (!images.has(i)) return NOT;
        lotSeed = images.restore(i, now);
        past.clear();
        return 1;
    }

    // ---- parts of the calls above

    private boolean isPerson(int p) {
        return p >= 0 && p < rules.people;
    }

    private boolean isPersonOrNone(int p) {
        return p == NONE || isPerson(p);
    }

    private boolean isTicket(int t) {
        return t >= 0 && t < rules.tickets;
    }

    private static boolean isRight(int r) {
        return r >= 0 && r < RIGHTS;
    }

    private static boolean holds(int set, int k) {
        return (set >> k & 1) != 0;
    }

    private static int older(int age) {
        return Math.min(OLDEST, age + 1);
    }

    private static int nextSeed(int seed) {
        return (int) (seed * 1103515245L + 12345L & 2147483647L);
    }

    private static int lotOf(int seed, int n) {
        return n < 1 ? 0 : seed / 65536 % n;
    }

    private static int spreadOf(int[] age, int people) {
        if (people < 1) return 0;
        int least = age[0];
        int greatest = age[0];
        for (int p = 1; p < people; p++) {
            least = Math.min(least, age[p]);
            greatest = Math.max(greatest, age[p]);
        }
        return greatest - least;
    }

    private void forgetSeen() {
        scale.seen = 0;
        lit.people = 0;
        book.lines = 0;
    }

    private int drawTicket(int t) {
        past.add(now);
        int who = now.whoAges(t);
        now.celebrate(who);
        now.passDraw(rules, t);
        return who;
    }

    /** Sets are tried rising, so that of sets of like PRICE and number the least stays. */
    private int cheapest(int p, int birthdays, long enough) {
        if (birthdays <= 0) return 0;
        chances.begin(rules, now.drum, rules.perYear - now.draws);
        int own = now.agingFor(p, rules.tickets);
        int others = now.forSaleTo(p, rules.tickets);
        int best = NONE;
        int bestPrice = now.coins[p] + 1;
        int bestCount = 0;
        for (int set = 0; set <= others; set++) {
            if ((set & ~others) != 0) continue;
            int cost = now.priceOf(set);
            int count = Integer.bitCount(set);
            boolean less = cost < bestPrice || cost == bestPrice && count < bestCount;
            if (less && chances.atLeast(rules, own | set, birthdays) >= enough) {
                best = set;
                bestPrice = cost;
                bestCount = count;
            }
        }
        return best;
    }

    private int spreadAfter(int years, boolean withReturn) {
        System.arraycopy(now.age, 0, trialAge, 0, MOST_PEOPLE);
        int trialSeed = lotSeed;
        for (int y = 0; y < years; y++) {
            int drum = rules.everyTicket();
            for (int k = 0; k < rules.perYear && drum != 0; k++) {
                trialSeed = nextSeed(trialSeed);
                int t = rules.ticketAt(drum, lotOf(trialSeed, rules.weightOf(drum)));
                int who = now.whoAges(t);
                if (isPerson(who)) trialAge[who] = older(trialAge[who]);
                if (!withReturn && isTicket(t)) drum &= ~(1 << t);
            }
        }
        return spreadOf(trialAge, rules.people);
    }

    /** What the text tells once and no later call changes. */
    private static final class Rules {
        final int[] weight;
        final int[] rightAge;
        int people;
        int tickets;
        int perYear;
        boolean withReturn;

        Rules() {
            weight = new int[MOST_TICKETS];
            rightAge = new int[RIGHTS];
            setUntold();
        }

        void setUntold() {
            people = 0;
            tickets = 0;
            perYear = 4;
            withReturn = true;
            rightAge[0] = 6;
            rightAge[1] = 18;
            rightAge[WEDDING] = 18;
            rightAge[3] = 65;
        }

        void copyFrom(Rules other) {
            System.arraycopy(other.weight, 0, weight, 0, MOST_TICKETS);
            System.arraycopy(other.rightAge, 0, rightAge, 0, RIGHTS);
            people = other.people;
            tickets = other.tickets;
            perYear = other.perYear;
            withReturn = other.withReturn;
        }

        int everyTicket() {
            return (1 << tickets) - 1;
        }

        int weightOf(int set) {
            int sum = 0;
            for (int t = 0; t < tickets; t++) {
                if (holds(set, t)) sum += weight[t];
            }
            return sum;
        }

        int rightsAt(int age) {
            int set = 0;
            for (int r = 0; r < RIGHTS; r++) {
                if (age >= rightAge[r]) set |= 1 << r;
            }
            return set;
        }

        int ticketAt(int drum, int lot) {
            int left = lot;
            for (int t = 0; t < tickets; t++) {
                if (!holds(drum, t)) continue;
                left -= weight[t];
                if (left < 0) return t;
            }
            return NONE;
        }

        int drumWithout(int drum, int t) {
            return withReturn ? drum : drum & ~(1 << t);
        }

        boolean endsYear(int drum, int draws, int t) {
            return draws + 1 >= perYear || drumWithout(drum, t) == 0;
        }

        int drumAfter(int drum, int draws, int t) {
            return endsYear(drum, draws, t) ? everyTicket() : drumWithout(drum, t);
        }

        int drawsAfter(int drum, int draws, int t) {
            return endsYear(drum, draws, t) ? 0 : draws + 1;
        }
    }

    /** All that draws, sales and pawns change: what is undone and what an image keeps. */
    private static final class Moment {
        static final int SIZE = 2 * MOST_PEOPLE + 3 * MOST_TICKETS + 3;

        final int[] age;
        final int[] coins;
        final int[] holder;
        final int[] pledgee;
        final int[] price;
        int drum;
        int years;
        int draws;

        Moment() {
            age = new int[MOST_PEOPLE];
            coins = new int[MOST_PEOPLE];
            holder = new int[MOST_TICKETS];
            pledgee = new int[MOST_TICKETS];
            price = new int[MOST_TICKETS];
            drum = 0;
            years = 0;
            draws = 0;
        }

        void copyFrom(Moment other) {
            System.arraycopy(other.age, 0, age, 0, MOST_PEOPLE);
            System.arraycopy(other.coins, 0, coins, 0, MOST_PEOPLE);
            System.arraycopy(other.holder, 0, holder, 0, MOST_TICKETS);
            System.arraycopy(other.pledgee, 0, pledgee, 0, MOST_TICKETS);
            System.arraycopy(other.price, 0, price, 0, MOST_TICKETS);
            drum = other.drum;
            years = other.years;
            draws = other.draws;
        }

        void packInto(int[] row) {
            if (row.length < SIZE) return;
            row[0] = drum;
            row[1] = years;
            row[2] = draws;
            System.arraycopy(age, 0, row, 3, MOST_PEOPLE);
            System.arraycopy(coins, 0, row, 3 + MOST_PEOPLE, MOST_PEOPLE);
            int tail = 3 + 2 * MOST_PEOPLE;
            System.arraycopy(holder, 0, row, tail, MOST_TICKETS);
            System.arraycopy(pledgee, 0, row, tail + MOST_TICKETS, MOST_TICKETS);
            System.arraycopy(price, 0, row, tail + 2 * MOST_TICKETS, MOST_TICKETS);
        }

        void unpackFrom(int[] row) {
            if (row.length < SIZE) return;
            drum = row[0];
            years = row[1];
            draws = row[2];
            System.arraycopy(row, 3, age, 0, MOST_PEOPLE);
            System.arraycopy(row, 3 + MOST_PEOPLE, coins, 0, MOST_PEOPLE);
            int tail = 3 + 2 * MOST_PEOPLE;
            System.arraycopy(row, tail, holder, 0, MOST_TICKETS);
            System.arraycopy(row, tail + MOST_TICKETS, pledgee, 0, MOST_TICKETS);
            System.arraycopy(row, tail + 2 * MOST_TICKETS, price, 0, MOST_TICKETS);
        }

        int whoAges(int t) {
            if (t < 0 || t >= MOST_TICKETS) return NONE;
            return pledgee[t] == NONE ? holder[t] : pledgee[t];
        }

        int heldBy(int p, int tickets) {
            int set = 0;
            for (int t = 0; t < tickets; t++) {
                if (holder[t] == p) set |= 1 << t;
            }
            return set;
        }

        int agingFor(int p, int tickets) {
            int set = 0;
            for (int t = 0; t < tickets; t++) {
                if (whoAges(t) == p) set |= 1 << t;
            }
            return set;
        }

        int forSaleTo(int p, int tickets) {
            int set = 0;
            for (int t = 0; t < tickets; t++) {
                if (holder[t] != p && pledgee[t] == NONE) set |= 1 << t;
            }
            return set;
        }

        int priceOf(int set) {
            int sum = 0;
            for (int t = 0; t < MOST_TICKETS; t++) {
                if (holds(set, t)) sum += price[t];
            }
            return sum;
        }

        void celebrate(int p) {
            if (p < 0 || p >= MOST_PEOPLE) return;
            age[p] = older(age[p]);
            coins[p] = Math.min(RICHEST, coins[p] + age[p] / 10 + 1);
        }

        void passDraw(Rules rules, int t) {
            int drumBefore = drum;
            if (rules.endsYear(drumBefore, draws, t)) years++;
            drum = rules.drumAfter(drumBefore, draws, t);
            draws = rules.drawsAfter(drumBefore, draws, t);
        }
    }

    /** Reads a text into rules and a start of its own, so that a faulty text leaves the town alone. */
    private static final class Reader {
        static final int CANNOT_STAND = 1, BAD_NUMBER = 2, ONE_TOO_MANY = 3;
        static final int NO_WORD = 0, MOST_NUMBERS = 4, MOST_FIGURES = 3;

        final Rules rules;
        final Moment start;
        final int[] number;
        int word;
        int numbers;
        int figures;
        int value;
        int numberAt;
        boolean yearTold;
        boolean rightsTold;
        int faultKind;
        int faultAt;

        Reader() {
            rules = new Rules();
            start = new Moment();
            number = new int[MOST_NUMBERS];
            begin();
        }

        int read(int[] letters, int length) {
            begin();
            for (int at = 0; at < length && at < letters.length && faultKind == 0; at++) {
                takeLetter(letters[at], at);
            }
            if (faultKind == 0) closeNumber();
            if (faultKind == 0 && word != NO_WORD) fail(CANNOT_STAND, length);
            start.drum = rules.everyTicket();
            return faultKind;
        }

        private void begin() {
            rules.setUntold();
            Arrays.fill(start.pledgee, NONE);
            word = NO_WORD;
            numbers = 0;
            figures = 0;
            value = 0;
            numberAt = 0;
            yearTold = false;
            rightsTold = false;
            faultKind = 0;
            faultAt = NONE;
        }

        private void fail(int kind, int at) {
            faultKind = kind;
            faultAt = at;
        }

        private void takeLetter(int letter, int at) {
            if (letter >= '0' && letter <= '9') {
                takeFigure(letter - '0', at);
                return;
            }
            // A number's fault stands at its first figure, ahead of any fault of this letter.
            closeNumber();
            if (faultKind != 0 || letter == ' ') return;
            if (letter == ';') closeClause(at);
            else openClause(letter, at);
        }

        private void takeFigure(int figure, int at) {
            if (figures == 0) {
                if (numbers >= numbersOf(word)) {
                    fail(CANNOT_STAND, at);
                    return;
                }
                numberAt = at;
                value = 0;
            }
            figures++;
            if (figures <= MOST_FIGURES) value = value * 10 + figure;
        }

        private void closeNumber() {
            if (figures == 0) return;
            boolean fits = figures <= MOST_FIGURES && value >= least() && value <= greatest();
            figures = 0;
            if (!fits || numbers >= MOST_NUMBERS) {
                fail(BAD_NUMBER, numberAt);
                return;
            }
            number[numbers] = value;
            numbers++;
        }

        private int least() {
            boolean fromOne = word == 't' && numbers == 1 || word == 'y' && numbers == 0;
            return fromOne ? 1 : 0;
        }

        private int greatest() {
            if (word == 'p') return numbers == 0 ? 99 : 999;
            if (word == 't' && numbers == 0) return rules.people - 1;
            if (word == 't' && numbers == 1) return 9;
            if (word == 'y') return numbers == 0 ? MOST_DRAWS : 1;
            return 99;
        }

        private static int numbersOf(int word) {
            switch (word) {
                case 'p': return 2;
                case 't': return 3;
                case 'y': return 2;
                case 'r': return RIGHTS;
                default: return 0;
            }
        }

        private void openClause(int letter, int at) {
            if (word != NO_WORD || numbersOf(letter) == 0) {
                fail(CANNOT_STAND, at);
            } else if (isOneTooMany(letter)) {
                fail(ONE_TOO_MANY, at);
            } else {
                word = letter;
                numbers = 0;
            }
        }

        private boolean isOneTooMany(int letter) {
            switch (letter) {
                case 'p': return rules.people >= MOST_PEOPLE;
                case 't': return rules.tickets >= MOST_TICKETS;
                case 'y': return yearTold;
                default: return rightsTold;
            }
        }

        private void closeClause(int at) {
            if (word == NO_WORD || numbers < numbersOf(word)) {
                fail(CANNOT_STAND, at);
                return;
            }
            if (word == 'p') addPerson();
            else if (word == 't') addTicket();
            else if (word == 'y') setYear();
            else setRights();
            word = NO_WORD;
            numbers = 0;
        }

        private void addPerson() {
            if (rules.people >= MOST_PEOPLE) return;
            start.age[rules.people] = number[0];
            start.coins[rules.people] = number[1];
            rules.people++;
        }

        private void addTicket() {
            if (rules.tickets >= MOST_TICKETS) return;
            start.holder[rules.tickets] = number[0];
            rules.weight[rules.tickets] = number[1];
            start.price[rules.tickets] = number[2];
            rules.tickets++;
        }

        private void setYear() {
            rules.perYear = number[0];
            rules.withReturn = number[1] == 1;
            yearTold = true;
        }

        private void setRights() {
            System.arraycopy(number, 0, rules.rightAge, 0, RIGHTS);
            rightsTold = true;
        }
    }

    /** The moments ahead of the latest draws, in a ring whose oldest row gives way. */
    private static final class Past {
        final int[][] ring;
        int next;
        int kept;

        Past() {
            ring = new int[MOST_UNDONE][Moment.SIZE];
            next = 0;
            kept = 0;
        }

        void clear() {
            next = 0;
            kept = 0;
        }

        void add(Moment moment) {
            moment.packInto(ring[next]);
            next = (next + 1) % MOST_UNDONE;
            if (kept < MOST_UNDONE) kept++;
        }

        void takeBack(int n, Moment moment) {
            if (n < 1 || n > kept) return;
            next = (next + MOST_UNDONE - n) % MOST_UNDONE;
            kept -= n;
            moment.unpackFrom(ring[next]);
        }
    }

    private static final class Images {
        final int[][] row;
        final int[] seed;
        int kept;

        Images() {
            row = new int[MOST_IMAGES][Moment.SIZE];
            seed = new int[MOST_IMAGES];
            kept = 0;
        }

        void clear() {
            kept = 0;
        }

        boolean has(int i) {
            return holds(kept, i);
        }

        void store(int i, Moment moment, int seedNow) {
            moment.packInto(row[i]);
            seed[i] = seedNow;
            kept |= 1 << i;
        }

        int restore(int i, Moment moment) {
            moment.unpackFrom(row[i]);
            return seed[i];
        }
    }

    /**
     * How a billion parts itself over what some draws can bring. Without return the parts belong to
     * what is left in the drum, whoever asks, so that buying can look at many sets at once.
     */
    private static final class Chances {
        static final int MOST_ENDS = 70;

        final long[] part;
        final int[] end;
        final long[] times;
        int drum;
        int rest;
        int ends;

        Chances() {
            part = new long[1 << MOST_TICKETS];
            end = new int[MOST_ENDS];
            times = new long[MOST_DRAWS + 1];
            drum = 0;
            rest = 0;
            ends = 0;
        }

        void begin(Rules rules, int drumNow, int draws) {
            drum = drumNow;
            // The year ends with the last ticket, however many draws it would have had.
            rest = rules.withReturn ? draws : Math.min(draws, Integer.bitCount(drumNow));
            if (!rules.withReturn) partSets(rules);
        }

        long atLeast(Rules rules, int mine, int birthdays) {
            return rules.withReturn ? atLeastWith(rules, mine, birthdays) : atLeastWithout(mine, birthdays);
        }

        /** A ticket less is a lesser number: falling, each set has all its parts when it is met. */
        private void partSets(Rules rules) {
            Arrays.fill(part, 0);
            ends = 0;
            if (drum < 0 || drum >= part.length) return;
            part[drum] = BILLION;
            int leftAtEnd = Integer.bitCount(drum) - rest;
            for (int set = drum; set >= 0; set--) {
                if (part[set] == 0) continue;
                if (Integer.bitCount(set) > leftAtEnd) {
                    handOn(rules, set);
                } else if (ends < MOST_ENDS) {
                    end[ends] = set;
                    ends++;
                }
            }
        }

        private void handOn(Rules rules, int set) {
            int all = rules.weightOf(set);
            if (all < 1) return;
            for (int t = 0; t < rules.tickets; t++) {
                if (holds(set, t)) part[set & ~(1 << t)] += part[set] * rules.weight[t] / all;
            }
        }

        private long atLeastWithout(int mine, int birthdays) {
            long sum = 0;
            for (int i = 0; i < ends; i++) {
                int drawn = drum & ~end[i];
                if (Integer.bitCount(drawn & mine) >= birthdays) sum += part[end[i]];
            }
            return sum;
        }

        private long atLeastWith(Rules rules, int mine, int birthdays) {
            Arrays.fill(times, 0);
            times[0] = BILLION;
            int all = rules.weightOf(drum);
            int own = rules.weightOf(mine);
            for (int k = 0; k < rest && k < MOST_DRAWS && all > 0; k++) {
                for (int v = k; v >= 0; v--) {
                    long more = times[v] * own / all;
                    times[v + 1] += more;
                    times[v] -= more;
                }
            }
            long sum = 0;
            for (int v = Math.max(0, birthdays); v <= MOST_DRAWS; v++) sum += times[v];
            return sum;
        }
    }

    /** The most couples, by sets of people who are still free. */
    private static final class Weddings {
        final int[] fitting;
        final int[] most;
        final int[] partner;
        int pairs;

        Weddings() {
            fitting = new int[MOST_PEOPLE];
            most = new int[1 << MOST_PEOPLE];
            partner = new int[MOST_PEOPLE];
            pairs = 0;
        }

        void match(Rules rules, Moment now, int apart) {
            for (int p = 0; p < rules.people; p++) fitting[p] = fittingFor(rules, now, p, apart);
            int everyone = (1 << rules.people) - 1;
            for (int free = 0; free <= everyone; free++) most[free] = mostAmong(free, rules.people);
            pairs = most[everyone];
            choose(everyone, rules.people);
        }

        private static int fittingFor(Rules rules, Moment now, int p, int apart) {
            int set = 0;
            int from = rules.rightAge[WEDDING];
            if (now.age[p] < from) return set;
            for (int q = 0; q < rules.people; q++) {
                boolean near = Math.abs(now.age[p] - now.age[q]) <= apart;
                if (q != p && near && now.age[q] >= from) set |= 1 << q;
            }
            return set;
        }

        /** Lesser sets are known already: a set only loses people. */
        private int mostAmong(int free, int people) {
            int p = firstOf(free, people);
            if (p == NONE) return 0;
            int others = free & ~(1 << p);
            int best = most[others];
            for (int q = p + 1; q < people; q++) {
                if (holds(others & fitting[p], q)) best = Math.max(best, 1 + most[others & ~(1 << q)]);
            }
            return best;
        }

        private static int firstOf(int set, int people) {
            for (int p = 0; p < people; p++) {
                if (holds(set, p)) return p;
            }
            return NONE;
        }

        private void choose(int everyone, int people) {
            Arrays.fill(partner, NONE);
            int free = everyone;
            for (int p = 0; p < people; p++) {
                if (!holds(free, p)) continue;
                int others = free & ~(1 << p);
                int q = firstPartner(p, others, most[free], people);
                if (q != NONE) {
                    partner[p] = q;
                    partner[q] = p;
                    others &= ~(1 << q);
                }
                free = others;
            }
        }

        private int firstPartner(int p, int others, int due, int people) {
            for (int q = p + 1; q < people; q++) {
                if (holds(others & fitting[p], q) && 1 + most[others & ~(1 << q)] == due) return q;
            }
            return NONE;
        }
    }

    /** Which ticket of the weighed drum is heavy, by the draws that were seen. */
    private static final class Scale {
        final int[] drawn;
        int seen;

        Scale() {
            drawn = new int[MOST_SEEN];
            seen = 0;
        }

        int add(int t) {
            if (seen < MOST_SEEN) {
                drawn[seen] = t;
                seen++;
            }
            return seen;
        }

        int millionths(Rules rules, int guess) {
            long sum = guessWeight(rules, NONE);
            for (int t = 0; t < rules.tickets; t++) sum += guessWeight(rules, t);
            if (sum < 1) return 0;
            return (int) (guessWeight(rules, guess) * MILLION / sum);
        }

        int heaviest(Rules rules) {
            int best = NONE;
            long bestWeight = -1;
            for (int t = 0; t < rules.tickets; t++) {
                long weight = guessWeight(rules, t);
                if (weight > bestWeight) {
                    best = t;
                    bestWeight = weight;
                }
            }
            return guessWeight(rules, NONE) > bestWeight ? NONE : best;
        }

        private long guessWeight(Rules rules, int guess) {
            boolean heavy = guess >= 0 && guess < rules.tickets;
            int all = rules.weightOf(rules.everyTicket()) + (heavy ? rules.weight[guess] : 0);
            long weight = BILLION;
            for (int i = 0; i < seen && all > 0; i++) {
                int own = rules.weight[drawn[i]];
                weight = weight * (drawn[i] == guess ? 2 * own : own) / all;
            }
            return weight;
        }
    }

    /** Rows of draws behind which the people told have just the ages told. */
    private static final class Candles {
        final int[] told;
        final int[] age;
        final int[] row;
        final int[] first;
        int people;
        int found;
        int inAll;
        int rowLength;

        Candles() {
            told = new int[MOST_PEOPLE];
            age = new int[MOST_PEOPLE];
            row = new int[LONGEST_ROW];
            first = new int[LONGEST_ROW];
            people = 0;
            found = 0;
            inAll = 0;
            rowLength = 0;
        }

        int light(int p, int years) {
            told[p] = years;
            people |= 1 << p;
            return people;
        }

        void search(Rules rules, Moment now, int draws) {
            System.arraycopy(now.age, 0, age, 0, MOST_PEOPLE);
            found = 0;
            inAll = rules.everyTicket();
            rowLength = Math.min(draws, LONGEST_ROW);
            int missing = 0;
            for (int p = 0; p < rules.people; p++) {
                if (!holds(people, p)) continue;
                if (age[p] > told[p]) return;
                missing += told[p] - age[p];
            }
            extend(this, rules, now, 0, now.drum, now.draws, missing);
        }

        /** No i is a wrong number, below 0 or behind the row's end: the row has no ticket there. */
        int firstAt(int i) {
            if (found == 0 || i < 0 || i >= rowLength) return NONE;
            return first[i];
        }

        /** Nobody grows younger: a row with too few draws left, or one too many, leads nowhere. */
        private static void extend(Candles all, Rules rules, Moment now, int depth, int drum, int draws, int missing) {
            if (missing > all.rowLength - depth) return;
            if (depth >= all.rowLength || depth >= LONGEST_ROW) {
                all.noteRow();
                return;
            }
            for (int t = 0; t < rules.tickets; t++) {
                int who = now.whoAges(t);
                if (!holds(drum, t) || who < 0 || who >= MOST_PEOPLE) continue;
                int before = all.age[who];
                int after = older(before);
                boolean lit = holds(all.people, who);
                if (lit && after > all.told[who]) continue;
                int nextDrum = rules.drumAfter(drum, draws, t);
                int nextDraws = rules.drawsAfter(drum, draws, t);
                int nextMissing = lit ? missing - (after - before) : missing;
                all.row[depth] = t;
                all.age[who] = after;
                extend(all, rules, now, depth + 1, nextDrum, nextDraws, nextMissing);
                all.age[who] = before;
            }
        }

        private void noteRow() {
            if (found == 0) System.arraycopy(row, 0, first, 0, LONGEST_ROW);
            found++;
            int set = 0;
            for (int i = 0; i < rowLength; i++) set |= 1 << row[i];
            inAll &= set;
        }
    }

    private static final class Book {
        final int[] line;
        int lines;

        Book() {
            line = new int[MOST_LINES];
            lines = 0;
        }

        int add(int t) {
            if (lines < MOST_LINES) {
                line[lines] = t;
                lines++;
            }
            return lines;
        }

        int wrong(Rules rules, Moment now) {
            int drum = now.drum;
            int draws = now.draws;
            for (int i = 0; i < lines; i++) {
                int t = line[i];
                if (!holds(drum, t)) return i;
                int drumBefore = drum;
                drum = rules.drumAfter(drumBefore, draws, t);
                draws = rules.drawsAfter(drumBefore, draws, t);
            }
            return NONE;
        }

        int ageBehind(Rules rules, Moment now, int p) {
            int wrongAt = wrong(rules, now);
            int good = wrongAt == NONE ? lines : wrongAt;
            int age = now.age[p];
            for (int i = 0; i < good; i++) {
                if (now.whoAges(line[i]) == p) age = older(age);
            }
            return age;
        }
    }
}
