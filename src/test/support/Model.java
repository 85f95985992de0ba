import java.util.ArrayList;
import java.util.HashMap;
import java.util.List;
import java.util.Map;

/**
 * The document told a second time, as slowly and plainly as can be: whole copies, all rows, all
 * sets of pairs. It shares no way of reckoning with the class, so that a slip shows as a difference.
 */
public final class Model {
    private static final int NONE = Check.NONE, UNKNOWN = Check.UNKNOWN, OUTSIDE = Check.OUTSIDE, NOT = Check.NOT, FULL = Check.FULL;
    private static final long BILLION = 1000000000L;

    /** Section 2, copied whole wherever it is tried or kept. */
    private static final class World {
        List<Integer> age = new ArrayList<>(), coins = new ArrayList<>();
        List<Integer> holder = new ArrayList<>(), pledgee = new ArrayList<>(), price = new ArrayList<>();
        List<Integer> weight = new ArrayList<>(), out = new ArrayList<>();
        int years, draws, k = 4, ret = 1;
        int[] rights = {6, 18, 18, 65};

        World copy() {
            World w = new World();
            w.age.addAll(age);
            w.coins.addAll(coins);
            w.holder.addAll(holder);
            w.pledgee.addAll(pledgee);
            w.price.addAll(price);
            w.weight.addAll(weight);
            w.out.addAll(out);
            w.years = years;
            w.draws = draws;
            w.k = k;
            w.ret = ret;
            w.rights = rights.clone();
            return w;
        }

        int who(int t) {
            return pledgee.get(t) >= 0 ? pledgee.get(t) : holder.get(t);
        }

        boolean in(int t) {
            return !out.contains(t);
        }

        int weightIn() {
            int sum = 0;
            for (int t = 0; t < weight.size(); t++) if (in(t)) sum += weight.get(t);
            return sum;
        }

        void draw(int t) {
            int p = who(t);
            if (age.get(p) < 999) age.set(p, age.get(p) + 1);
            coins.set(p, Math.min(9999, coins.get(p) + age.get(p) / 10 + 1));
            draws++;
            if (ret == 0) out.add(t);
            if (draws == k || out.size() == weight.size()) {
                out.clear();
                draws = 0;
                years++;
            }
        }

        int spread() {
            int most = 0;
            for (int a : age) for (int b : age) most = Math.max(most, a - b);
            return most;
        }
    }

    private String text = "";
    private int faultAt = NONE;
    private World w = new World();
    private long seed;
    private List<World> undo = new ArrayList<>();
    private final World[] image = new World[2];
    private final long[] imageSeed = new long[2];
    private final List<Integer> seen = new ArrayList<>(), book = new ArrayList<>();
    private final Map<Integer, Integer> lit = new HashMap<>();

    public int call(String name, int a, int b, int c, int d) {
        switch (name) {
            case "feed": return feed(a);
            case "town": return town();
            case "fault": return faultAt;
            case "told": return told(a);
            case "person": return person(a, b);
            case "ticket": return ticket(a, b);
            case "right": return a < 0 || a > 3 ? OUTSIDE : w.rights[a];
            case "draw": return draw(a);
            case "lots": return lots(a);
            case "sell": return sell(a, b);
            case "pawn": return pawn(a, b);
            case "price": return price(a, b);
            case "undo": return undo(a);
            case "odds": return !isP(a) ? UNKNOWN : b < 0 || b > 8 ? OUTSIDE : (int) chance(w, a, b);
            case "never": return never(a, b);
            case "buy": return buy(a, b, c, d);
            case "evens": return evens(a, b);
            case "couples": return couples(a, b);
            case "see": return see(a);
            case "belief": return a != NONE && !isT(a) ? UNKNOWN : belief(a);
            case "likeliest": return likeliest();
            case "candles": return candles(a, b);
            case "rows": return rows(a, b);
            case "sure": return sure(a);
            case "write": return write(a);
            case "judge": return judge();
            case "ageBy": return ageBy(a);
            case "tear": return tear();
            case "seed": return seed(a);
            case "keep": return keep(a);
            case "goBack": return goBack(a);
            default: throw new IllegalArgumentException(name);
        }
    }

    private boolean isP(int p) {
        return p >= 0 && p < w.age.size();
    }

    private boolean isT(int t) {
        return t >= 0 && t < w.weight.size();
    }

    // ---- the town

    private int feed(int letter) {
        if (letter < 0 || letter > 255) return OUTSIDE;
        if (text.length() == 250) return FULL;
        text += (char) letter;
        return text.length();
    }

    /** A fault, thrown to where the text is taken. */
    private static final class Fault extends Exception {
        final int kind, at;

        Fault(int kind, int at) {
            this.kind = kind;
            this.at = at;
        }
    }

    private int pos;

    private int town() {
        String all = text;
        text = "";
        try {
            World read = parse(all);
            w = read;
            faultAt = NONE;
        } catch (Fault f) {
            faultAt = f.at;
            return -10 - f.kind;
        }
        undo.clear();
        image[0] = null;
        image[1] = null;
        tear();
        return w.age.size();
    }

    private World parse(String s) throws Fault {
        World r = new World();
        boolean y = false, rr = false;
        pos = 0;
        while (true) {
            blanks(s);
            if (pos == s.length()) return r;
            int at = pos;
            char word = s.charAt(pos++);
            if (word == 'p') {
                if (r.age.size() == 6) throw new Fault(3, at);
                int age = number(s, 0, 99), coins = number(s, 0, 999);
                close(s);
                r.age.add(age);
                r.coins.add(coins);
            } else if (word == 't') {
                if (r.weight.size() == 8) throw new Fault(3, at);
                int p = number(s, 0, r.age.size() - 1), weight = number(s, 1, 9), price = number(s, 0, 99);
                close(s);
                r.holder.add(p);
                r.pledgee.add(NONE);
                r.weight.add(weight);
                r.price.add(price);
            } else if (word == 'y') {
                if (y) throw new Fault(3, at);
                y = true;
                r.k = number(s, 1, 8);
                r.ret = number(s, 0, 1);
                close(s);
            } else if (word == 'r') {
                if (rr) throw new Fault(3, at);
                rr = true;
                for (int i = 0; i < 4; i++) r.rights[i] = number(s, 0, 99);
                close(s);
            } else {
                throw new Fault(1, at);
            }
        }
    }

    private void blanks(String s) {
        while (pos < s.length() && s.charAt(pos) == ' ') pos++;
    }

    private int number(String s, int least, int most) throws Fault {
        blanks(s);
        int at = pos;
        while (pos < s.length() && "0123456789".indexOf(s.charAt(pos)) >= 0) pos++;
        if (pos == at) throw new Fault(1, at);
        if (pos - at > 3) throw new Fault(2, at);
        int v = Integer.parseInt(s.substring(at, pos));
        if (v < least || v > most) throw new Fault(2, at);
        return v;
    }

    private void close(String s) throws Fault {
        blanks(s);
        if (pos == s.length() || s.charAt(pos) != ';') throw new Fault(1, pos);
        pos++;
    }

    private int told(int what) {
        int set = 0;
        switch (what) {
            case 0: return w.age.size();
            case 1: return w.weight.size();
            case 2: return text.length();
            case 3: return w.years;
            case 4: return w.draws;
            case 5: return w.k;
            case 6: return w.ret;
            case 7:
                for (int t = 0; t < w.weight.size(); t++) if (w.in(t)) set += 1 << t;
                return set;
            case 8: return w.weightIn();
            case 9: return w.spread();
            case 10: return seen.size();
            case 11:
                for (int p : lit.keySet()) set += 1 << p;
                return set;
            case 12: return book.size();
            case 13: return undo.size();
            default: return OUTSIDE;
        }
    }

    private int person(int p, int what) {
        if (!isP(p)) return UNKNOWN;
        if (what < 0 || what > 4) return OUTSIDE;
        if (what == 0) return w.age.get(p);
        if (what == 1) return w.coins.get(p);
        int set = 0;
        if (what == 2) {
            for (int r = 0; r < 4; r++) if (w.age.get(p) >= w.rights[r]) set += 1 << r;
        } else {
            for (int t = 0; t < w.weight.size(); t++) {
                if ((what == 3 ? w.holder.get(t) : w.who(t)) == p) set += 1 << t;
            }
        }
        return set;
    }

    private int ticket(int t, int what) {
        if (!isT(t)) return UNKNOWN;
        if (what < 0 || what > 3) return OUTSIDE;
        return List.of(w.holder, w.weight, w.price, w.pledgee).get(what).get(t);
    }

    // ---- draws

    private void drawn(int t) {
        undo.add(w.copy());
        if (undo.size() > 30) undo.remove(0);
        w.draw(t);
    }

    private int draw(int t) {
        if (!isT(t)) return UNKNOWN;
        if (!w.in(t)) return NOT;
        int who = w.who(t);
        drawn(t);
        return who;
    }

    private static long step(long s) {
        return (s * 1103515245L + 12345L) % 2147483648L;
    }

    private static int byLot(World v, long s) {
        List<Integer> slips = new ArrayList<>();
        for (int t = 0; t < v.weight.size(); t++) {
            if (v.in(t)) for (int i = 0; i < v.weight.get(t); i++) slips.add(t);
        }
        return slips.get((int) (s / 65536 % slips.size()));
    }

    private int lots(int n) {
        if (n < 1 || n > 99) return OUTSIDE;
        if (w.weight.isEmpty()) return NOT;
        int t = NONE;
        for (int i = 0; i < n; i++) {
            seed = step(seed);
            t = byLot(w, seed);
            drawn(t);
        }
        return t;
    }

    private int sell(int t, int p) {
        if (!isT(t) || !isP(p)) return UNKNOWN;
        int from = w.holder.get(t), m = w.price.get(t);
        if (from == p || w.pledgee.get(t) != NONE || w.coins.get(p) < m) return NOT;
        w.coins.set(p, w.coins.get(p) - m);
        w.coins.set(from, Math.min(9999, w.coins.get(from) + m));
        w.holder.set(t, p);
        return w.coins.get(p);
    }

    private int pawn(int t, int p) {
        if (!isT(t) || p != NONE && !isP(p)) return UNKNOWN;
        return w.pledgee.set(t, p);
    }

    private int price(int t, int m) {
        if (!isT(t)) return UNKNOWN;
        if (m < 0 || m > 99) return OUTSIDE;
        return w.price.set(t, m);
    }

    private int undo(int n) {
        if (n < 1 || n > 30) return OUTSIDE;
        if (n > undo.size()) return NOT;
        w = undo.get(undo.size() - n);
        undo = new ArrayList<>(undo.subList(0, undo.size() - n));
        return w.years;
    }

    // ---- tried

    private static long chance(World v, int p, int atLeast) {
        int all = 0, mine = 0, drum = 0;
        for (int t = 0; t < v.weight.size(); t++) {
            all += v.weight.get(t);
            if (v.who(t) == p) mine += v.weight.get(t);
            if (v.in(t)) drum |= 1 << t;
        }
        Map<Integer, Long> at = new HashMap<>();
        at.put(v.ret == 1 ? 0 : drum, BILLION);
        for (int draw = v.draws; draw < v.k && all > 0; draw++) {
            Map<Integer, Long> next = new HashMap<>();
            for (Map.Entry<Integer, Long> e : at.entrySet()) {
                if (v.ret == 1) {
                    long more = e.getValue() * mine / all;
                    next.merge(e.getKey() + 1, more, Long::sum);
                    next.merge(e.getKey(), e.getValue() - more, Long::sum);
                    continue;
                }
                int set = e.getKey(), in = 0;
                if (set == 0) next.merge(0, e.getValue(), Long::sum);
                for (int t = 0; t < 8; t++) if ((set >> t & 1) == 1) in += v.weight.get(t);
                for (int t = 0; t < 8; t++) {
                    if ((set >> t & 1) == 1) next.merge(set - (1 << t), e.getValue() * v.weight.get(t) / in, Long::sum);
                }
            }
            at = next;
        }
        long sum = 0;
        for (Map.Entry<Integer, Long> e : at.entrySet()) {
            int births = 0;
            if (v.ret == 1) births = e.getKey();
            else for (int t = 0; t < v.weight.size(); t++) {
                if (v.in(t) && (e.getKey() >> t & 1) == 0 && v.who(t) == p) births++;
            }
            if (births >= atLeast) sum += e.getValue();
        }
        return sum;
    }

    private int never(int p, int n) {
        if (!isP(p)) return UNKNOWN;
        if (n < 1 || n > 99) return OUTSIDE;
        World fresh = w.copy();
        fresh.out.clear();
        fresh.draws = 0;
        long one = BILLION - chance(fresh, p, 1), all = BILLION;
        for (int i = 0; i < n; i++) all = all * one / BILLION;
        return (int) all;
    }

    private int buy(int p, int right, int x, int what) {
        if (!isP(p)) return UNKNOWN;
        if (right < 0 || right > 3 || x < 0 || x > 100 || what < 0 || what > 1) return OUTSIDE;
        int missing = w.rights[right] - w.age.get(p);
        if (missing <= 0) return 0;
        int[] best = null;
        for (int set = 0; set < 1 << w.weight.size(); set++) {
            World v = w.copy();
            int cost = 0;
            boolean can = true;
            for (int t = 0; t < w.weight.size(); t++) {
                if ((set >> t & 1) == 0) continue;
                can &= w.holder.get(t) != p && w.pledgee.get(t) == NONE;
                cost += w.price.get(t);
                v.holder.set(t, p);
            }
            if (!can || cost > w.coins.get(p)) continue;
            if (chance(v, p, missing) < BILLION / 100 * x) continue;
            int[] here = {cost, Integer.bitCount(set), set};
            if (best == null || java.util.Arrays.compare(here, best) < 0) best = here;
        }
        return best == null ? NONE : what == 0 ? best[0] : best[2];
    }

    private int evens(int n, int what) {
        if (n < 1 || n > 20 || what < 0 || what > 1) return OUTSIDE;
        if (w.weight.isEmpty()) return NOT;
        int[] spread = new int[2];
        for (int ret = 0; ret < 2; ret++) {
            World v = w.copy();
            v.ret = ret;
            v.out.clear();
            v.draws = 0;
            long s = seed;
            int end = v.years + n;
            while (v.years < end) {
                s = step(s);
                v.draw(byLot(v, s));
            }
            spread[ret] = v.spread();
        }
        if (what == 1) return Math.min(spread[0], spread[1]);
        return spread[0] == spread[1] ? 2 : spread[1] < spread[0] ? 1 : 0;
    }

    private int couples(int d, int p) {
        if (p != NONE && !isP(p)) return UNKNOWN;
        if (d < 0 || d > 99) return OUTSIDE;
        List<int[]> all = new ArrayList<>();
        pairUp(d, 0, new int[w.age.size()], all);
        int most = 0;
        for (int[] m : all) most = Math.max(most, pairsIn(m));
        // pairUp tells them in order already, so the first with the most is the one.
        for (int[] m : all) if (pairsIn(m) == most) return p == NONE ? most : m[p] == 99 ? NONE : m[p];
        return 0;
    }

    private static int pairsIn(int[] m) {
        int n = 0;
        for (int q : m) if (q != 99) n++;
        return n / 2;
    }

    /** Every row of partners, each PERSON trying all others rising and none (99) last. */
    private void pairUp(int d, int p, int[] with, List<int[]> all) {
        if (p == with.length) {
            for (int i = 0; i < p; i++) if (with[i] != 99 && with[with[i]] != i) return;
            all.add(with.clone());
            return;
        }
        for (int q = 0; q < with.length; q++) {
            if (q == p || q < p && with[q] != p) continue;
            int a = w.age.get(p), b = w.age.get(q);
            if (a < w.rights[2] || b < w.rights[2] || Math.abs(a - b) > d) continue;
            with[p] = q;
            pairUp(d, p + 1, with, all);
        }
        with[p] = 99;
        pairUp(d, p + 1, with, all);
    }

    // ---- what was seen

    private int see(int t) {
        if (!isT(t)) return UNKNOWN;
        if (seen.size() == 8) return FULL;
        seen.add(t);
        return seen.size();
    }

    private long guess(int g) {
        long v = BILLION;
        for (int s : seen) {
            int all = 0;
            for (int t = 0; t < w.weight.size(); t++) all += t == g ? 2 * w.weight.get(t) : w.weight.get(t);
            v = v * (s == g ? 2 * w.weight.get(s) : w.weight.get(s)) / all;
        }
        return v;
    }

    private int belief(int g) {
        long all = 0;
        for (int t = -1; t < w.weight.size(); t++) all += guess(t);
        return all == 0 ? 0 : (int) (1000000 * guess(g) / all);
    }

    private int likeliest() {
        long most = guess(NONE);
        for (int t = 0; t < w.weight.size(); t++) most = Math.max(most, guess(t));
        for (int t = 0; t < w.weight.size(); t++) if (guess(t) == most) return t;
        return NONE;
    }

    private int candles(int p, int age) {
        if (!isP(p)) return UNKNOWN;
        if (age < 0 || age > 999) return OUTSIDE;
        lit.put(p, age);
        return told(11);
    }

    private List<int[]> fitting(int m) {
        List<int[]> all = new ArrayList<>();
        int n = w.weight.size();
        for (int code = 0; code < Math.pow(n, m); code++) {
            int[] row = new int[m];
            int left = code;
            for (int i = m - 1; i >= 0; i--) {
                row[i] = left % n;
                left /= n;
            }
            World v = w.copy();
            boolean can = true;
            for (int t : row) {
                can = can && v.in(t);
                if (can) v.draw(t);
            }
            for (int p : lit.keySet()) can = can && v.age.get(p).equals(lit.get(p));
            if (can) all.add(row);
        }
        return all;
    }

    private int rows(int m, int i) {
        if (m < 1 || m > 4) return OUTSIDE;
        if (w.weight.isEmpty()) return NOT;
        List<int[]> all = fitting(m);
        return i == NONE ? all.size() : all.isEmpty() || i < 0 || i >= m ? NONE : all.get(0)[i];
    }

    private int sure(int m) {
        if (m < 1 || m > 4) return OUTSIDE;
        if (w.weight.isEmpty()) return NOT;
        List<int[]> all = fitting(m);
        int set = all.isEmpty() ? 0 : 255;
        for (int[] row : all) {
            int in = 0;
            for (int t : row) in |= 1 << t;
            set &= in;
        }
        return set;
    }

    private int write(int t) {
        if (!isT(t)) return UNKNOWN;
        if (book.size() == 20) return FULL;
        book.add(t);
        return book.size();
    }

    private World tried;

    private int judge() {
        tried = w.copy();
        for (int i = 0; i < book.size(); i++) {
            if (!tried.in(book.get(i))) return i;
            tried.draw(book.get(i));
        }
        return NONE;
    }

    private int ageBy(int p) {
        if (!isP(p)) return UNKNOWN;
        judge();
        return tried.age.get(p);
    }

    private int tear() {
        int n = seen.size() + lit.size() + book.size();
        seen.clear();
        lit.clear();
        book.clear();
        return n;
    }

    private int seed(int v) {
        if (v < 0) return OUTSIDE;
        int before = (int) seed;
        seed = v;
        return before;
    }

    private int keep(int i) {
        if (i < 0 || i > 1) return UNKNOWN;
        image[i] = w.copy();
        imageSeed[i] = seed;
        undo.clear();
        return 1;
    }

    private int goBack(int i) {
        if (i < 0 || i > 1) return UNKNOWN;
        if (image[i] == null) return NOT;
        w = image[i].copy();
        seed = imageSeed[i];
        undo.clear();
        return 1;
    }
}
