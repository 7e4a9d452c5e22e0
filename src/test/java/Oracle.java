import java.math.BigInteger;
import java.util.ArrayList;
import java.util.Arrays;
import java.util.List;

/**
 * The document told a second time, in the plainest way that the Java library allows and sharing
 * nothing with the program: WHEELS are copied whole at each DEED, KINDS are classes, chances are
 * BigIntegers, and every choice is tried out to the end.
 */
final class Oracle {
    static class Refused extends RuntimeException {
        final int answer;

        Refused(int answer) {
            super(null, null, false, false);
            this.answer = answer;
        }
    }

    static class Cleft {
        int length, strong, wear;
        boolean there = true;

        int kind() { return 0; }
        int bears(int d, int w, boolean dry) { return Math.max(0, 2 * strong - w); }
    }

    static class Sawn extends Cleft {
        int kind() { return 1; }
        int bears(int d, int w, boolean dry) { return super.bears(d, w, dry) / 2; }
    }

    static class Elm extends Cleft {
        int kind() { return 2; }
        int bears(int d, int w, boolean dry) { return super.bears(d, w, dry) + (d > 4 ? 3 : 0); }
    }

    static class Greased extends Elm {
        int kind() { return 3; }
        int bears(int d, int w, boolean dry) { return super.bears(d, w / 2, dry); }
    }

    static class Iron extends Cleft {
        int kind() { return 4; }
        int bears(int d, int w, boolean dry) { return super.bears(d, 0, dry); }
    }

    static class Rusted extends Iron {
        int kind() { return 5; }
        int bears(int d, int w, boolean dry) {
            int b = super.bears(d, w, dry);
            return dry ? Math.max(0, b - w) : b;
        }
    }

    static Cleft ofKind(int kind) {
        Cleft[] all = {new Cleft(), new Sawn(), new Elm(), new Greased(), new Iron(), new Rusted()};
        return all[kind];
    }

    static Cleft alike(int kind, Cleft o) {
        Cleft s = ofKind(kind);
        s.length = o.length;
        s.strong = o.strong;
        s.wear = o.wear;
        s.there = o.there;
        return s;
    }

    static class World {
        List<Cleft> spokes = new ArrayList<>();
        int[] ruts = new int[8];
        int gate, rut, stand;
        boolean dry;

        World same() {
            World w = new World();
            for (Cleft s : spokes) w.spokes.add(alike(s.kind(), s));
            w.ruts = ruts;
            w.gate = gate;
            w.rut = rut;
            w.stand = stand;
            w.dry = dry;
            return w;
        }

        boolean over() {
            for (int i = 0; i < spokes.size(); i++) {
                if (!spokes.get(i).there && !spokes.get((i + 1) % spokes.size()).there) return true;
            }
            return false;
        }

        boolean step() {
            Cleft s = spokes.get(stand);
            int d = ruts[rut % 8];
            boolean limps = true;
            if (s.there && s.length >= d) {
                if (s.bears(d, s.wear, dry) >= d) {
                    limps = false;
                    if (dry || rut % 2 == 1) s.wear++;
                    if (s.wear > 30) s.wear = 30;
                } else {
                    s.there = false;
                }
            }
            stand = (stand + 1) % spokes.size();
            rut++;
            return limps;
        }

        int bits(boolean there) {
            int b = 0;
            for (int i = 0; i < spokes.size(); i++) if (spokes.get(i).there == there) b += 1 << i;
            return b;
        }

        /** 1, 0; 2 for a STEP that is none. */
        List<Integer> course(int n) {
            World w = same();
            List<Integer> c = new ArrayList<>();
            for (int k = 0; k < n; k++) c.add(w.over() ? 2 : w.step() ? 1 : 0);
            return c;
        }

        int limping(int n) {
            int sum = 0;
            for (int c : course(n)) if (c != 0) sum++;
            return sum;
        }

        boolean fits(List<Integer> row) {
            List<Integer> c = course(row.size());
            for (int k = 0; k < c.size(); k++) if (c.get(k) % 2 != row.get(k)) return false;
            return true;
        }
    }

    List<List<Integer>> rows = new ArrayList<>(Arrays.asList(null, null, null, null, null, null));
    List<List<Integer>> texts = new ArrayList<>(Arrays.asList(null, null, null, null));
    /** The WHEEL at first and behind each DEED; empty without SPOKES. */
    List<World> deeds = new ArrayList<>();
    List<List<World>> kept = new ArrayList<>(Arrays.asList(null, null, null));
    int asked, finding;
    int[] tallies = new int[6];
    BigInteger up = BigInteger.ZERO, low = BigInteger.ONE;

    World now() { return deeds.get(deeds.size() - 1); }
    int size() { return deeds.isEmpty() ? 0 : now().spokes.size(); }
    int deedsDone() { return Math.max(0, deeds.size() - 1); }

    void bad(boolean when) { if (when) throw new Refused(-1); }
    void state(boolean when) { if (when) throw new Refused(-4); }
    void full(int more) { if (deedsDone() + more > 40) throw new Refused(-2); }

    void found(boolean when, int f) {
        if (when) {
            finding = f;
            tallies[f]++;
            throw new Refused(-3);
        }
    }

    static boolean out(long v, long from, long to) { return v < from || v > to; }

    int told(int v) {
        asked = v;
        return 1;
    }

    int told(int answer, int v) {
        asked = v;
        return answer;
    }

    int row(int r, int n) {
        bad(out(r, 0, 5) || n > 40);
        found(n < 0, 5);
        rows.set(r, new ArrayList<>(java.util.Collections.nCopies(n, 0)));
        return n;
    }

    int lay(int r, int i, int v) {
        place(rows, r, i);
        return told(rows.get(r).set(i, v));
    }

    int at(int r, int i) {
        place(rows, r, i);
        return told(rows.get(r).get(i));
    }

    void there(List<List<Integer>> all, int r) {
        bad(out(r, 0, all.size() - 1));
        found(all.get(r) == null, 1);
    }

    void place(List<List<Integer>> all, int r, int i) {
        there(all, r);
        found(out(i, 0, all.get(r).size() - 1), 2);
    }

    int tear(int r) {
        there(rows, r);
        rows.set(r, null);
        return 1;
    }

    int copy(int r, int i, int to, int j, int n) {
        bad(out(r, 0, 5) || out(to, 0, 5));
        found(n < 0, 5);
        found(rows.get(r) == null || rows.get(to) == null, 1);
        found(i < 0 || (long) i + n > rows.get(r).size(), 2);
        found(j < 0 || (long) j + n > rows.get(to).size(), 2);
        List<Integer> ahead = new ArrayList<>(rows.get(r).subList(i, i + n));
        for (int k = 0; k < n; k++) rows.get(to).set(j + k, ahead.get(k));
        return 1;
    }

    int mean(int r) {
        there(rows, r);
        found(rows.get(r).isEmpty(), 4);
        BigInteger sum = BigInteger.ZERO;
        for (int v : rows.get(r)) sum = sum.add(BigInteger.valueOf(v));
        return told(sum.divide(BigInteger.valueOf(rows.get(r).size())).intValueExact());
    }

    int text(int t, int n) {
        bad(out(t, 0, 3) || n > 60);
        found(n < 0, 5);
        texts.set(t, new ArrayList<>(java.util.Collections.nCopies(n, 32)));
        return n;
    }

    int put(int t, int i, int v) {
        place(texts, t, i);
        return texts.get(t).set(i, (int) (byte) v) + 1000;
    }

    /** The signs that may come at a place behind what stands ahead of it. */
    static String may(String state) {
        if (state.equals("first")) return " r";
        if (state.startsWith("road")) return "0123456789";
        if (state.equals("long")) return "123456789";
        if (state.equals("strong")) return "0123456789";
        return " csegiu";
    }

    int fault(int t) {
        there(texts, t);
        String state = "first";
        int many = 0;
        List<Integer> b = texts.get(t);
        for (int i = 0; i < b.size(); i++) {
            int sign = b.get(i);
            if (sign < 0 || may(state).indexOf((char) sign) < 0) return i;
            boolean blank = sign == 32;
            if (state.equals("first")) {
                state = blank ? "first" : "road1";
            } else if (state.startsWith("road")) {
                int k = Integer.parseInt(state.substring(4));
                if (k == 10 && (b.get(i - 1) - 48) * 10 + sign - 48 > 60) return i - 1;
                state = k == 10 ? "spoke" : "road" + (k + 1);
            } else if (state.equals("long")) {
                state = "strong";
            } else if (state.equals("strong")) {
                state = "spoke";
            } else if (!blank) {
                if (++many > 8) return i;
                state = "long";
            }
        }
        return state.equals("spoke") && many >= 3 ? -9 : b.size();
    }

    int wheel(int t) {
        there(texts, t);
        state(fault(t) != -9);
        StringBuilder s = new StringBuilder();
        for (int b : texts.get(t)) if (b != 32) s.append((char) b);
        World w = new World();
        for (int k = 0; k < 8; k++) w.ruts[k] = s.charAt(1 + k) - '0';
        w.gate = Integer.parseInt(s.substring(9, 11));
        for (int k = 11; k < s.length(); k += 3) {
            Cleft c = ofKind("csegiu".indexOf(s.charAt(k)));
            c.length = s.charAt(k + 1) - '0';
            c.strong = s.charAt(k + 2) - '0';
            w.spokes.add(c);
        }
        deeds = new ArrayList<>(List.of(w));
        for (int k = 0; k < 3; k++) kept.set(k, null);
        return size();
    }

    int ofSpoke(int i, int what) {
        Cleft s = now().spokes.get(i);
        int[] all = {s.kind(), s.length, s.strong, s.wear, s.there ? 1 : 0,
            s.bears(now().ruts[now().rut % 8], s.wear, now().dry)};
        return all[what];
    }

    int spoke(int i, int what) {
        bad(out(i, 0, size() - 1) || out(what, 0, 5));
        return told(ofSpoke(i, what));
    }

    int mark(int i, int kind) {
        bad(out(i, 0, size() - 1) || out(kind, 1, 5));
        Cleft s = now().spokes.get(i);
        found(!ofKind(kind).getClass().isInstance(s), 3);
        int d = now().ruts[now().rut % 8];
        int[] b = new int[6];
        for (int k = 0; k < 6; k++) b[k] = alike(k, s).bears(d, s.wear, now().dry);
        int own = b[s.kind()];
        int[] all = {0, b[0] - own, own - b[0] + 100, own - b[2], own - b[0] + 100, b[4] - own};
        return all[kind];
    }

    int bears(int i, int d, int wear) {
        bad(out(i, 0, size() - 1) || out(d, 0, 9) || out(wear, 0, 30));
        return now().spokes.get(i).bears(d, wear, now().dry);
    }

    World next() {
        World w = now().same();
        deeds.add(w);
        return w;
    }

    int step() {
        state(size() == 0 || now().over());
        full(1);
        return next().step() ? 1 : 0;
    }

    int soak() {
        state(size() == 0);
        full(1);
        int sum = 0;
        for (Cleft s : next().spokes) sum += s.wear = s.wear / 2;
        return sum;
    }

    int weather() {
        state(size() == 0);
        full(1);
        World w = next();
        w.dry = !w.dry;
        return w.dry ? 1 : 0;
    }

    int knock(int i) {
        bad(out(i, 0, size() - 1));
        state(!now().spokes.get(i).there);
        full(1);
        Cleft s = next().spokes.get(i);
        s.there = false;
        return s.wear;
    }

    int mend(int i) {
        bad(out(i, 0, size() - 1));
        full(1);
        Cleft s = next().spokes.get(i);
        int was = s.there ? 0 : 1;
        s.there = true;
        s.wear = 0;
        return was;
    }

    int undo(int n) {
        bad(out(n, 0, deedsDone()));
        int many = deedsDone() - n;
        if (size() != 0) deeds = new ArrayList<>(deeds.subList(0, n + 1));
        return many;
    }

    int keep(int k) {
        bad(out(k, 0, 2));
        state(size() == 0);
        kept.set(k, new ArrayList<>(deeds));
        return deedsDone();
    }

    int on(int k) {
        bad(out(k, 0, 2));
        found(kept.get(k) == null, 1);
        deeds = new ArrayList<>(kept.get(k));
        return deedsDone();
    }

    int goes(int n) {
        bad(out(n, 0, 60));
        state(size() == 0);
        int far = now().rut;
        int limped = 0;
        for (int c : now().course(n)) {
            if (c != 2) far++;
            if (c == 1) limped++;
        }
        return told(far, limped);
    }

    int over() {
        state(size() == 0);
        World w = now().same();
        for (int k = 0; k <= 60; k++) {
            if (w.over()) return told(w.rut, w.bits(false));
            w.step();
        }
        return -9;
    }

    int limps(int n, int r) {
        bad(out(n, 1, 20) || out(r, 0, 5));
        state(size() == 0);
        int sum = 0;
        List<Integer> row = new ArrayList<>();
        for (int c : now().course(n)) {
            row.add(c % 2);
            sum += c % 2;
        }
        rows.set(r, row);
        return sum;
    }

    int gate() {
        state(size() == 0);
        for (int many = 0; many <= size(); many++) {
            for (int set = 0; set < 1 << size(); set++) {
                if (Integer.bitCount(set) == many && arrives(set)) return told(many, set);
            }
        }
        return -9;
    }

    boolean arrives(int set) {
        World w = now().same();
        for (int i = 0; i < size(); i++) {
            if ((set >> i) % 2 == 1) {
                w.spokes.get(i).wear = 0;
                w.spokes.get(i).there = true;
            }
        }
        while (w.rut < w.gate && !w.over()) w.step();
        return w.rut >= w.gate;
    }

    int turned() {
        state(size() == 0);
        int best = 0;
        int least = 99;
        for (int i = size() - 1; i >= 0; i--) {
            World w = now().same();
            w.stand = i;
            if (w.limping(20) <= least) {
                least = w.limping(20);
                best = i;
            }
        }
        return told(best, least);
    }

    int change() {
        state(size() == 0);
        int best = -9;
        int least = now().limping(20);
        for (int i = 0; i < size(); i++) {
            for (int j = i + 1; j < size(); j++) {
                World w = now().same();
                java.util.Collections.swap(w.spokes, i, j);
                if (w.limping(20) < least) {
                    least = w.limping(20);
                    best = 10 * i + j;
                }
            }
        }
        return best == -9 ? -9 : told(best, least);
    }

    void limpRow(int r) {
        found(rows.get(r) == null, 1);
        found(out(rows.get(r).size(), 1, 20), 5);
        for (int v : rows.get(r)) found(out(v, 0, 1), 3);
    }

    int gone(int r) {
        bad(out(r, 0, 5));
        state(size() == 0);
        limpRow(r);
        List<Integer> sets = new ArrayList<>();
        for (int set = 0; set < 1 << size(); set++) {
            World w = now().same();
            for (int i = 0; i < size(); i++) w.spokes.get(i).there = (set >> i) % 2 == 0;
            if (w.fits(rows.get(r))) sets.add(set);
        }
        return sets.isEmpty() ? -9 : told(sets.size(), sets.get(0));
    }

    int strengths(int i, int r) {
        bad(out(i, 0, size() - 1) || out(r, 0, 5));
        limpRow(r);
        int set = 0;
        for (int v = 0; v < 10; v++) {
            World w = now().same();
            w.spokes.get(i).strong = v;
            if (w.fits(rows.get(r))) set += 1 << v;
        }
        return set;
    }

    int kinds(int i, int r) {
        bad(out(i, 0, size() - 1) || out(r, 0, 5));
        limpRow(r);
        int set = 0;
        for (int k = 0; k < 6; k++) {
            World w = now().same();
            w.spokes.set(i, alike(k, w.spokes.get(i)));
            if (w.fits(rows.get(r))) set += 1 << k;
        }
        return set;
    }

    int look(int i) {
        bad(out(i, 0, size() - 1));
        Cleft s = now().spokes.get(i);
        int best = 0;
        int least = 99;
        for (int d = 0; d < 10; d++) {
            int yes = 0;
            for (int k = 0; k < 6; k++) if (alike(k, s).bears(d, s.wear, now().dry) >= d) yes++;
            int part = yes > 3 ? yes : 6 - yes;
            if (part < least) {
                least = part;
                best = d;
            }
        }
        return told(best, least);
    }

    int duel(int n) {
        bad(out(n, 0, 4));
        state(size() == 0);
        return fought(now(), n, true);
    }

    static int fought(World w, int n, boolean carter) {
        if (n == 0) return w.limping(12);
        List<Integer> all = new ArrayList<>();
        all.add(fought(w, n - 1, !carter));
        for (int i = 0; i < w.spokes.size(); i++) {
            if (w.spokes.get(i).there != carter) continue;
            World v = w.same();
            v.spokes.get(i).there = !carter;
            if (!carter) v.spokes.get(i).wear = 0;
            all.add(fought(v, n - 1, !carter));
        }
        return carter ? java.util.Collections.max(all) : java.util.Collections.min(all);
    }

    int odds(int v, int p) {
        bad(out(v, 0, 20) || out(p, 0, 12));
        state(size() == 0);
        return share(fall(now(), 0, p, v));
    }

    int mid(int p) {
        bad(out(p, 0, 12));
        state(size() == 0);
        return share(fall(now(), 0, p, -1));
    }

    /** Twelfths of twelfths, SPOKE by SPOKE: of LIMPING v or less, or (v below 0) how often. */
    static BigInteger fall(World w, int i, int p, int v) {
        if (i == w.spokes.size()) {
            int often = w.limping(12);
            return BigInteger.valueOf(v < 0 ? often : often <= v ? 1 : 0);
        }
        if (!w.spokes.get(i).there) return fall(w, i + 1, p, v);
        World without = w.same();
        without.spokes.get(i).there = false;
        return fall(without, i + 1, p, v).multiply(BigInteger.valueOf(p))
            .add(fall(w, i + 1, p, v).multiply(BigInteger.valueOf(12 - p)));
    }

    int share(BigInteger of) {
        BigInteger all = BigInteger.valueOf(12).pow(Integer.bitCount(now().bits(true)));
        BigInteger divisor = of.gcd(all);
        up = of.divide(divisor);
        low = all.divide(divisor);
        return 1;
    }

    int lots(int n, int seed) {
        bad(out(n, 1, 20) || out(seed, 1, 2147483646));
        state(size() == 0);
        full(n);
        BigInteger lot = BigInteger.valueOf(seed);
        for (int k = 0; k < n; k++) {
            lot = lot.multiply(BigInteger.valueOf(48271)).mod(BigInteger.valueOf(2147483647));
            int v = lot.intValueExact();
            if (v % 6 == 0) weather();
            else if (v % 6 == 1) mend(v / 8 % size());
            else if (now().over()) soak();
            else step();
        }
        return now().rut;
    }

    int asked() { return asked; }
    long upper() { return up.longValueExact(); }
    long lower() { return low.longValueExact(); }

    int count(int what) {
        bad(out(what, 0, 12));
        World w = size() == 0 ? new World() : now();
        int length = 0;
        int iron = 0;
        for (Cleft s : w.spokes) {
            if (s.there) length += s.length;
            if (s instanceof Iron) iron++;
        }
        int[] all = {size(), w.rut, deedsDone(), w.stand, w.bits(true), w.dry ? 1 : 0, w.over() ? 1 : 0,
            w.gate, present(rows), present(texts), present(kept), length, iron};
        return all[what];
    }

    static int present(List<?> all) {
        int many = 0;
        for (Object o : all) if (o != null) many++;
        return many;
    }

    int finding() { return finding; }

    int findings(int f) {
        bad(out(f, 1, 5));
        return tallies[f];
    }

    long digest() {
        List<Integer> all = new ArrayList<>();
        for (int k = 0; k < 13; k++) all.add(count(k));
        for (int k = 0; k < 8; k++) all.add(size() == 0 ? 0 : now().ruts[k]);
        for (int i = 0; i < size(); i++) for (int k = 0; k < 6; k++) all.add(ofSpoke(i, k));
        for (List<World> k : kept) all.add(k == null ? -1 : k.size() - 1);
        for (List<List<Integer>> some : List.of(rows, texts)) {
            for (List<Integer> one : some) {
                all.add(one == null ? -1 : one.size());
                if (one != null) all.addAll(one);
            }
        }
        long h = 17;
        for (int v : all) h = 31 * h + v;
        return h;
    }
}
