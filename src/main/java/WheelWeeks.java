import java.util.Arrays;

/** Weeks as wheels of seven spokes, more or fewer; ../shared/DOC.md says what each call promises. */
public final class WheelWeeks {
    public static final int BAD = -1, FULL = -2, FINDING = -3, STATE = -4, SPENT = -6, NONE = -9;

    private static final int NOTHING = 1, BEYOND = 2, UNLIKE = 3, NOUGHT = 4, SIZE = 5;
    private static final int CLEFT = 0, SAWN = 1, ELM = 2, GREASED = 3, IRON = 4, RUSTED = 5;
    private static final int KINDS = 6;
    private static final int STEP = 0, SOAKING = 1, TURNING = 2, KNOCKING = 3, MENDING = 4;
    private static final int ROWS = 6, ROW_MOST = 40, TEXTS = 4, TEXT_MOST = 60, KEPT = 3;
    private static final int RUTS = 8, DEPTH_MOST = 9, SPOKES_LEAST = 3, SPOKES_MOST = 8;
    private static final int STRONG_MOST = 9, WEAR_MOST = 30, DEEDS_MOST = 40;
    private static final int GATE_MOST = 60, STEPS_MOST = 60, LIMPS_MOST = 20, LOTS_MOST = 20;
    private static final int FAR = 20, NEAR = 12, TURNS_MOST = 4, CHANCES = 12;
    private static final int LAST_COUNT = 12, LAST_OF_SPOKE = 5, LAST_FINDING = 5;
    private static final int BLANK = 32, FIGURE_0 = 48, ROAD = 114, MISSING = -1;
    private static final long LOT_FACTOR = 48271L, LOT_MODULUS = 2147483647L;
    private static final int[] LETTERS = {99, 115, 101, 103, 105, 117};
    /** The KIND that a KIND is one of, besides itself. */
    private static final int[] PARENTS = {0, 0, 0, 2, 0, 4};

    private final Shelf rows;
    private final Shelf texts;
    private final Reader reader;
    private final Cart cart;
    private final Cart[] kept;
    private final Aside aside;
    private final int[] tallies;
    private int findingLast;
    private int askedLast;
    private long upperLast;
    private long lowerLast;

    public WheelWeeks() {
        rows = new Shelf(ROWS, ROW_MOST);
        texts = new Shelf(TEXTS, TEXT_MOST);
        reader = new Reader();
        cart = new Cart();
        kept = new Cart[KEPT];
        for (int k = 0; k < KEPT; k++) {
            kept[k] = new Cart();
            kept[k].done = MISSING;
        }
        aside = new Aside(cart.wheel);
        tallies = new int[LAST_FINDING + 1];
        lowerLast = 1;
    }

    // ---- 1 rows, texts, wheels

    public int row(int r, int n) {
        return makeAnew(rows, r, n, 0);
    }

    public int lay(int r, int i, int v) {
        int refused = refusePlace(rows, r, i);
        if (refused != 0) {
            return refused;
        }
        return tell(rows.set(r, i, v));
    }

    public int at(int r, int i) {
        int refused = refusePlace(rows, r, i);
        if (refused != 0) {
            return refused;
        }
        return tell(rows.get(r, i));
    }

    public int tear(int r) {
        int refused = refuseMissing(rows, r);
        if (refused != 0) {
            return refused;
        }
        rows.drop(r);
        return 1;
    }

    public int copy(int r, int i, int to, int j, int n) {
        if (!rows.isNumber(r) || !rows.isNumber(to)) {
            return BAD;
        }
        if (n < 0) {
            return refuse(SIZE);
        }
        if (rows.isMissing(r) || rows.isMissing(to)) {
            return refuse(NOTHING);
        }
        if (!rows.hasPart(r, i, n) || !rows.hasPart(to, j, n)) {
            return refuse(BEYOND);
        }
        rows.move(r, i, to, j, n);
        return 1;
    }

    public int mean(int r) {
        int refused = refuseMissing(rows, r);
        if (refused != 0) {
            return refused;
        }
        int size = rows.sizeOf(r);
        if (size <= 0) {
            return refuse(NOUGHT);
        }
        return tell((int) (rows.sum(r) / size));
    }

    public int text(int t, int n) {
        return makeAnew(texts, t, n, BLANK);
    }

    public int put(int t, int i, int v) {
        int refused = refusePlace(texts, t, i);
        if (refused != 0) {
            return refused;
        }
        return texts.set(t, i, (byte) v) + 1000;
    }

    public int fault(int t) {
        int refused = refuseMissing(texts, t);
        if (refused != 0) {
            return refused;
        }
        return reader.read(texts.placesOf(t), texts.sizeOf(t));
    }

    public int wheel(int t) {
        int refused = refuseMissing(texts, t);
        if (refused != 0) {
            return refused;
        }
        if (reader.read(texts.placesOf(t), texts.sizeOf(t)) != NONE) {
            return STATE;
        }
        cart.begin(reader.draft);
        for (int k = 0; k < KEPT; k++) {
            kept[k].done = MISSING;
        }
        return cart.wheel.spokes;
    }

    public int spoke(int i, int what) {
        if (!cart.wheel.isSpoke(i) || what < 0 || what > LAST_OF_SPOKE) {
            return BAD;
        }
        return tell(cart.wheel.facet(i, what));
    }

    public int mark(int i, int kind) {
        if (!cart.wheel.isSpoke(i) || kind <= CLEFT || kind >= KINDS) {
            return BAD;
        }
        if (!isOfKind(cart.wheel.kind[i], kind)) {
            return refuse(UNLIKE);
        }
        return cart.wheel.differs(i, kind);
    }

    public int bears(int i, int d, int wear) {
        if (!cart.wheel.isSpoke(i) || d < 0 || d > DEPTH_MOST || wear < 0 || wear > WEAR_MOST) {
            return BAD;
        }
        return bearing(cart.wheel.kind[i], cart.wheel.strong[i], wear, d, cart.wheel.dry);
    }

    // ---- 2 deeds

    public int step() {
        if (cart.wheel.isEmpty() || cart.wheel.isOver()) {
            return STATE;
        }
        return doDeed(STEP, 0);
    }

    public int soak() {
        return cart.wheel.isEmpty() ? STATE : doDeed(SOAKING, 0);
    }

    public int weather() {
        return cart.wheel.isEmpty() ? STATE : doDeed(TURNING, 0);
    }

    public int knock(int i) {
        if (!cart.wheel.isSpoke(i)) {
            return BAD;
        }
        return cart.wheel.isThere(i) ? doDeed(KNOCKING, i) : STATE;
    }

    public int mend(int i) {
        return cart.wheel.isSpoke(i) ? doDeed(MENDING, i) : BAD;
    }

    public int undo(int n) {
        if (n < 0 || n > cart.done) {
            return BAD;
        }
        int many = cart.done - n;
        cart.goBack(n);
        return many;
    }

    public int keep(int k) {
        if (k < 0 || k >= KEPT) {
            return BAD;
        }
        if (cart.wheel.isEmpty()) {
            return STATE;
        }
        kept[k].take(cart);
        return cart.done;
    }

    public int on(int k) {
        if (k < 0 || k >= KEPT) {
            return BAD;
        }
        if (kept[k].done == MISSING) {
            return refuse(NOTHING);
        }
        cart.take(kept[k]);
        return cart.done;
    }

    // ---- 3 how far it goes

    public int goes(int n) {
        if (n < 0 || n > STEPS_MOST) {
            return BAD;
        }
        if (cart.wheel.isEmpty()) {
            return STATE;
        }
        return tellBeside(aside.rutBehind(n));
    }

    public int over() {
        return cart.wheel.isEmpty() ? STATE : tellBeside(aside.rutOver());
    }

    public int limps(int n, int r) {
        if (n < 1 || n > LIMPS_MOST || !rows.isNumber(r)) {
            return BAD;
        }
        if (cart.wheel.isEmpty()) {
            return STATE;
        }
        rows.makeOne(r, n, 0);
        return aside.writeLimps(rows.placesOf(r), n);
    }

    // ---- 4 what to do

    public int gate() {
        return cart.wheel.isEmpty() ? STATE : tellBeside(aside.fewestToGate());
    }

    public int turned() {
        return cart.wheel.isEmpty() ? STATE : tellBeside(aside.bestStand());
    }

    public int change() {
        return cart.wheel.isEmpty() ? STATE : tellBeside(aside.bestChange());
    }

    // ---- 5 which spoke is gone

    public int gone(int r) {
        if (!rows.isNumber(r)) {
            return BAD;
        }
        if (cart.wheel.isEmpty()) {
            return STATE;
        }
        int refused = refuseLimps(r);
        if (refused != 0) {
            return refused;
        }
        return tellBeside(aside.goneSets(rows.placesOf(r), rows.sizeOf(r)));
    }

    public int strengths(int i, int r) {
        int refused = refuseGuess(i, r);
        if (refused != 0) {
            return refused;
        }
        return aside.likelyStrengths(i, rows.placesOf(r), rows.sizeOf(r));
    }

    public int kinds(int i, int r) {
        int refused = refuseGuess(i, r);
        if (refused != 0) {
            return refused;
        }
        return aside.likelyKinds(i, rows.placesOf(r), rows.sizeOf(r));
    }

    public int look(int i) {
        return cart.wheel.isSpoke(i) ? tellBeside(aside.bestDepth(i)) : BAD;
    }

    // ---- 6 by turns

    public int duel(int n) {
        if (n < 0 || n > TURNS_MOST) {
            return BAD;
        }
        if (cart.wheel.isEmpty()) {
            return STATE;
        }
        // at first neither of them has anything sure
        return aside.fight(n, true, cart.wheel.there, 0, -1, NEAR + 1);
    }

    // ---- 7 chances, lots

    public int odds(int v, int p) {
        if (v < 0 || v > LIMPS_MOST || p < 0 || p > CHANCES) {
            return BAD;
        }
        if (cart.wheel.isEmpty()) {
            return STATE;
        }
        return tellShare(aside.waysUpTo(v, p));
    }

    public int mid(int p) {
        if (p < 0 || p > CHANCES) {
            return BAD;
        }
        if (cart.wheel.isEmpty()) {
            return STATE;
        }
        return tellShare(aside.limpsOverWays(p));
    }

    public int lots(int n, int seed) {
        if (n < 1 || n > LOTS_MOST || seed < 1 || seed >= LOT_MODULUS) {
            return BAD;
        }
        if (cart.wheel.isEmpty()) {
            return STATE;
        }
        if (cart.done + n > DEEDS_MOST) {
            return FULL;
        }
        long lot = seed;
        for (int k = 0; k < n; k++) {
            lot = lot * LOT_FACTOR % LOT_MODULUS;
            doLot(lot);
        }
        return cart.wheel.rut;
    }

    // ---- 8 what is told

    public int asked() {
        return askedLast;
    }

    public long upper() {
        return upperLast;
    }

    public long lower() {
        return lowerLast;
    }

    public int count(int what) {
        return what < 0 || what > LAST_COUNT ? BAD : counted(what);
    }

    public int finding() {
        return findingLast;
    }

    public int findings(int f) {
        return f < 1 || f > LAST_FINDING ? BAD : tallies[f];
    }

    public long digest() {
        long h = 17;
        for (int what = 0; what <= LAST_COUNT; what++) {
            h = 31 * h + counted(what);
        }
        h = cart.wheel.mix(h);
        for (int k = 0; k < KEPT; k++) {
            h = 31 * h + kept[k].done;
        }
        return texts.mix(rows.mix(h));
    }

    // ---- refusals, and what is told beside an answer

    private int refuse(int f) {
        findingLast = f;
        tallies[f]++;
        return FINDING;
    }

    /** 0, if nothing is to be refused. */
    private int refuseMissing(Shelf shelf, int r) {
        if (!shelf.isNumber(r)) {
            return BAD;
        }
        return shelf.isMissing(r) ? refuse(NOTHING) : 0;
    }

    /** 0, if nothing is to be refused. */
    private int refusePlace(Shelf shelf, int r, int i) {
        int refused = refuseMissing(shelf, r);
        if (refused != 0) {
            return refused;
        }
        return shelf.isPlace(r, i) ? 0 : refuse(BEYOND);
    }

    /** 0, if the ROW (whose number is one) can tell in which STEPS it LIMPED. */
    private int refuseLimps(int r) {
        if (rows.isMissing(r)) {
            return refuse(NOTHING);
        }
        if (rows.sizeOf(r) < 1 || rows.sizeOf(r) > LIMPS_MOST) {
            return refuse(SIZE);
        }
        return rows.holdsBits(r) ? 0 : refuse(UNLIKE);
    }

    /** 0, if the ROW can tell of the SPOKE. */
    private int refuseGuess(int i, int r) {
        return cart.wheel.isSpoke(i) && rows.isNumber(r) ? refuseLimps(r) : BAD;
    }

    private int makeAnew(Shelf shelf, int r, int n, int fill) {
        if (!shelf.isNumber(r) || n > shelf.most) {
            return BAD;
        }
        if (n < 0) {
            return refuse(SIZE);
        }
        shelf.makeOne(r, n, fill);
        return n;
    }

    private int tell(int v) {
        askedLast = v;
        return 1;
    }

    /** Beside an answer asked() tells what was found with it, but NONE leaves it alone. */
    private int tellBeside(int answer) {
        if (answer != NONE) {
            askedLast = aside.found;
        }
        return answer;
    }

    private int tellShare(long ways) {
        long all = power(CHANCES, Integer.bitCount(cart.wheel.there));
        long divisor = commonDivisor(ways, all);
        if (divisor > 0) {
            upperLast = ways / divisor;
            lowerLast = all / divisor;
        }
        return 1;
    }

    private int doDeed(int deed, int i) {
        return cart.done >= DEEDS_MOST ? FULL : cart.add(deed, i);
    }

    private void doLot(long lot) {
        int way = (int) (lot % 6);
        if (way == 0) {
            cart.add(TURNING, 0);
        } else if (way == 1) {
            int spokes = Math.max(1, cart.wheel.spokes);
            cart.add(MENDING, (int) (lot / 8 % spokes));
        } else {
            cart.add(cart.wheel.isOver() ? SOAKING : STEP, 0);
        }
    }

    private int counted(int what) {
        Wheel wheel = cart.wheel;
        switch (what) {
            case 0: return wheel.spokes;
            case 1: return wheel.rut;
            case 2: return cart.done;
            case 3: return wheel.stand;
            case 4: return wheel.there;
            case 5: return wheel.dry ? 1 : 0;
            case 6: return wheel.isOver() ? 1 : 0;
            case 7: return wheel.gateRut;
            case 8: return rows.howMany();
            case 9: return texts.howMany();
            case 10: return keptOnes();
            case 11: return wheel.lengthThere();
            default: return wheel.ironOnes();
        }
    }

    private int keptOnes() {
        int many = 0;
        for (int k = 0; k < KEPT; k++) {
            if (kept[k].done != MISSING) {
                many++;
            }
        }
        return many;
    }

    // ---- kinds and numbers

    private static boolean isOfKind(int kind, int wanted) {
        return kind == wanted || PARENTS[kind] == wanted;
    }

    private static int bearing(int kind, int strong, int wear, int depth, boolean dry) {
        int left = Math.max(0, 2 * strong - feltWear(kind, wear, dry));
        switch (kind) {
            case SAWN: return left / 2;
            case ELM:
            case GREASED: return depth >= 5 ? left + 3 : left;
            default: return left;
        }
    }

    /** As much of the WEAR as a SPOKE of this KIND BEARS less by. */
    private static int feltWear(int kind, int wear, boolean dry) {
        switch (kind) {
            case GREASED: return wear / 2;
            case IRON: return 0;
            case RUSTED: return dry ? wear : 0;
            default: return wear;
        }
    }

    private static long power(long base, int exponent) {
        long product = 1;
        for (int k = 0; k < exponent; k++) {
            product *= base;
        }
        return product;
    }

    private static long commonDivisor(long a, long b) {
        long greater = a;
        long lesser = b;
        // a hundred divisions are more than any two longs need
        for (int k = 0; k < 100 && lesser != 0; k++) {
            long rest = greater % lesser;
            greater = lesser;
            lesser = rest;
        }
        return greater;
    }

    /** Rows of numbers, some of them missing: the ROWS, and the TEXTS too. */
    private static final class Shelf {
        final int most;
        private final int[][] places;
        private final int[] sizes;

        Shelf(int many, int most) {
            this.most = most;
            places = new int[many][most];
            sizes = new int[many];
            Arrays.fill(sizes, MISSING);
        }

        boolean isNumber(int r) {
            return r >= 0 && r < sizes.length;
        }

        boolean isMissing(int r) {
            return sizes[r] == MISSING;
        }

        boolean isPlace(int r, int i) {
            return i >= 0 && i < sizes[r];
        }

        boolean hasPart(int r, int i, int n) {
            return i >= 0 && i <= sizes[r] - n;
        }

        boolean holdsBits(int r) {
            for (int i = 0; i < sizes[r]; i++) {
                if (places[r][i] != 0 && places[r][i] != 1) {
                    return false;
                }
            }
            return true;
        }

        int sizeOf(int r) {
            return sizes[r];
        }

        int[] placesOf(int r) {
            return places[r];
        }

        int get(int r, int i) {
            return places[r][i];
        }

        /** What was there before. */
        int set(int r, int i, int v) {
            int was = places[r][i];
            places[r][i] = v;
            return was;
        }

        void makeOne(int r, int n, int fill) {
            sizes[r] = n;
            Arrays.fill(places[r], fill);
        }

        void drop(int r) {
            sizes[r] = MISSING;
        }

        void move(int r, int i, int to, int j, int n) {
            System.arraycopy(places[r], i, places[to], j, n);
        }

        long sum(int r) {
            long sum = 0;
            for (int i = 0; i < sizes[r]; i++) {
                sum += places[r][i];
            }
            return sum;
        }

        int howMany() {
            int many = 0;
            for (int r = 0; r < sizes.length; r++) {
                if (sizes[r] != MISSING) {
                    many++;
                }
            }
            return many;
        }

        long mix(long before) {
            long h = before;
            for (int r = 0; r < sizes.length; r++) {
                h = 31 * h + sizes[r];
                for (int i = 0; i < sizes[r]; i++) {
                    h = 31 * h + places[r][i];
                }
            }
            return h;
        }
    }

    /** Reads a TEXT into a draft of a WHEEL, as far as it can go on. */
    private static final class Reader {
        final Wheel draft = new Wheel();
        private final int[] signs = new int[TEXT_MOST];
        private int size;
        private int place;

        /** The FAULT, or NONE: then the draft is whole. */
        int read(int[] text, int length) {
            System.arraycopy(text, 0, signs, 0, TEXT_MOST);
            size = length;
            place = 0;
            draft.spokes = 0;
            skipBlanks();
            if (!readRoad()) {
                return place;
            }
            skipBlanks();
            for (int k = 0; k < TEXT_MOST && place < size; k++) {
                if (!readSpoke()) {
                    return place;
                }
                skipBlanks();
            }
            return draft.spokes < SPOKES_LEAST ? size : NONE;
        }

        private void skipBlanks() {
            while (place < size && signs[place] == BLANK) {
                place++;
            }
        }

        private boolean readRoad() {
            if (place >= size || signs[place] != ROAD) {
                return false;
            }
            place++;
            for (int k = 0; k < RUTS; k++) {
                int depth = readFigure(0);
                if (depth < 0) {
                    return false;
                }
                draft.depths[k] = depth;
            }
            return readGate();
        }

        private boolean readGate() {
            int first = place;
            int tens = readFigure(0);
            int ones = tens < 0 ? tens : readFigure(0);
            if (ones < 0) {
                return false;
            }
            draft.gateRut = 10 * tens + ones;
            if (draft.gateRut > GATE_MOST) {
                place = first;
                return false;
            }
            return true;
        }

        private boolean readSpoke() {
            int i = draft.spokes;
            int kind = kindOf(signs[place]);
            if (i >= SPOKES_MOST || kind < 0) {
                return false;
            }
            place++;
            int length = readFigure(1);
            int strong = length < 0 ? length : readFigure(0);
            if (strong < 0) {
                return false;
            }
            draft.kind[i] = kind;
            draft.length[i] = length;
            draft.strong[i] = strong;
            draft.spokes = i + 1;
            return true;
        }

        /** A figure not below the least one; MISSING, if there is none here. */
        private int readFigure(int least) {
            if (place >= size) {
                return MISSING;
            }
            int figure = signs[place] - FIGURE_0;
            if (figure < least || figure > 9) {
                return MISSING;
            }
            place++;
            return figure;
        }

        private static int kindOf(int letter) {
            for (int kind = 0; kind < KINDS; kind++) {
                if (LETTERS[kind] == letter) {
                    return kind;
                }
            }
            return MISSING;
        }
    }

    /** A WHEEL as it stands on its road. */
    private static final class Wheel {
        final int[] depths = new int[RUTS];
        final int[] kind = new int[SPOKES_MOST];
        final int[] length = new int[SPOKES_MOST];
        final int[] strong = new int[SPOKES_MOST];
        final int[] wear = new int[SPOKES_MOST];
        int spokes;
        int gateRut;
        int stand;
        int rut;
        int there;
        boolean dry;

        void take(Wheel other) {
            System.arraycopy(other.depths, 0, depths, 0, RUTS);
            System.arraycopy(other.kind, 0, kind, 0, SPOKES_MOST);
            System.arraycopy(other.length, 0, length, 0, SPOKES_MOST);
            System.arraycopy(other.strong, 0, strong, 0, SPOKES_MOST);
            System.arraycopy(other.wear, 0, wear, 0, SPOKES_MOST);
            spokes = other.spokes;
            gateRut = other.gateRut;
            stand = other.stand;
            rut = other.rut;
            there = other.there;
            dry = other.dry;
        }

        void start() {
            Arrays.fill(wear, 0);
            stand = 0;
            rut = 0;
            there = (1 << spokes) - 1;
            dry = false;
        }

        boolean isEmpty() {
            return spokes == 0;
        }

        boolean isSpoke(int i) {
            return i >= 0 && i < spokes;
        }

        boolean isThere(int i) {
            return (there >> i & 1) == 1;
        }

        int goneOnes() {
            return ((1 << spokes) - 1) & ~there;
        }

        boolean isOver() {
            int gone = goneOnes();
            if (gone == 0) {
                return false;
            }
            // each bit moved to the next SPOKE round the WHEEL
            int next = gone << 1 | gone >> (spokes - 1);
            return (gone & next) != 0;
        }

        int depth() {
            return depths[rut & (RUTS - 1)];
        }

        /** What the SPOKE would BEAR here, were it of this KIND. */
        int bearingAs(int alike, int i) {
            return bearing(alike, strong[i], wear[i], depth(), dry);
        }

        int facet(int i, int what) {
            switch (what) {
                case 0: return kind[i];
                case 1: return length[i];
                case 2: return strong[i];
                case 3: return wear[i];
                case 4: return isThere(i) ? 1 : 0;
                default: return bearingAs(kind[i], i);
            }
        }

        /** What a KIND that the SPOKE is of makes of what it BEARS. */
        int differs(int i, int as) {
            int own = bearingAs(kind[i], i);
            switch (as) {
                case SAWN: return bearingAs(CLEFT, i) - own;
                case GREASED: return own - bearingAs(ELM, i);
                case RUSTED: return bearingAs(IRON, i) - own;
                default: return own - bearingAs(CLEFT, i) + 100;
            }
        }

        int lengthThere() {
            int sum = 0;
            for (int i = 0; i < spokes; i++) {
                if (isThere(i)) {
                    sum += length[i];
                }
            }
            return sum;
        }

        int ironOnes() {
            int many = 0;
            for (int i = 0; i < spokes; i++) {
                if (isOfKind(kind[i], IRON)) {
                    many++;
                }
            }
            return many;
        }

        /** A DEED, and what it answers. */
        int act(int deed, int i) {
            switch (deed) {
                case STEP: return roll() ? 1 : 0;
                case SOAKING: return soakAll();
                case TURNING: return turnWeather();
                case KNOCKING: return knockOut(i);
                default: return putIn(i);
            }
        }

        /** A STEP: whether it LIMPS. */
        boolean roll() {
            int i = stand;
            int depth = depth();
            boolean holds = isThere(i) && length[i] >= depth;
            if (holds && bearing(kind[i], strong[i], wear[i], depth, dry) < depth) {
                there &= ~(1 << i);
                holds = false;
            }
            if (holds && (dry || (rut & 1) == 1)) {
                wear[i] = Math.min(WEAR_MOST, wear[i] + 1);
            }
            rut++;
            stand = i + 1 < spokes ? i + 1 : 0;
            return !holds;
        }

        private int soakAll() {
            int sum = 0;
            for (int i = 0; i < spokes; i++) {
                wear[i] /= 2;
                sum += wear[i];
            }
            return sum;
        }

        private int turnWeather() {
            dry = !dry;
            return dry ? 1 : 0;
        }

        private int knockOut(int i) {
            there &= ~(1 << i);
            return wear[i];
        }

        private int putIn(int i) {
            int was = isThere(i) ? 0 : 1;
            there |= 1 << i;
            wear[i] = 0;
            return was;
        }

        void putInAll(int set) {
            for (int i = 0; i < spokes; i++) {
                if ((set >> i & 1) == 1) {
                    putIn(i);
                }
            }
        }

        void changeRound(int i, int j) {
            swap(kind, i, j);
            swap(length, i, j);
            swap(strong, i, j);
            swap(wear, i, j);
            if (isThere(i) != isThere(j)) {
                there ^= 1 << i | 1 << j;
            }
        }

        private static void swap(int[] numbers, int i, int j) {
            int was = numbers[i];
            numbers[i] = numbers[j];
            numbers[j] = was;
        }

        /** How often it LIMPS in n STEPS, fewer if it is OVER ahead. */
        int rollFar(int n) {
            int limping = 0;
            for (int k = 0; k < n && !isOver(); k++) {
                if (roll()) {
                    limping++;
                }
            }
            return limping;
        }

        /** How often it LIMPS in n STEPS, those that are none for OVER with them. */
        int limpsIn(int n) {
            int limping = 0;
            for (int k = 0; k < n; k++) {
                if (isOver() || roll()) {
                    limping++;
                }
            }
            return limping;
        }

        /** Whether it LIMPS in the next n STEPS just as the row tells. */
        boolean limpsAs(int[] row, int n) {
            for (int k = 0; k < n; k++) {
                boolean limping = !isOver() && roll();
                if (limping != (row[k] == 1)) {
                    return false;
                }
            }
            return true;
        }

        boolean reachesGate() {
            for (int k = 0; k < GATE_MOST && rut < gateRut && !isOver(); k++) {
                roll();
            }
            return rut >= gateRut;
        }

        long mix(long before) {
            long h = before;
            for (int k = 0; k < RUTS; k++) {
                h = 31 * h + depths[k];
            }
            for (int i = 0; i < spokes; i++) {
                for (int what = 0; what <= LAST_OF_SPOKE; what++) {
                    h = 31 * h + facet(i, what);
                }
            }
            return h;
        }
    }

    /** A WHEEL and the DEEDS that made it so. */
    private static final class Cart {
        final Wheel wheel = new Wheel();
        private final int[] deeds = new int[DEEDS_MOST];
        private final int[] doneTo = new int[DEEDS_MOST];
        /** How many DEEDS; MISSING, where no WHEEL is kept. */
        int done;

        void begin(Wheel draft) {
            wheel.take(draft);
            wheel.start();
            done = 0;
        }

        void take(Cart other) {
            wheel.take(other.wheel);
            System.arraycopy(other.deeds, 0, deeds, 0, DEEDS_MOST);
            System.arraycopy(other.doneTo, 0, doneTo, 0, DEEDS_MOST);
            done = other.done;
        }

        int add(int deed, int i) {
            if (done < 0 || done >= DEEDS_MOST) {
                return FULL;
            }
            deeds[done] = deed;
            doneTo[done] = i;
            done++;
            return wheel.act(deed, i);
        }

        /** The same DEEDS make the same WHEEL, so the first n are done again from the start. */
        void goBack(int n) {
            wheel.start();
            for (int k = 0; k < n && k < DEEDS_MOST; k++) {
                wheel.act(deeds[k], doneTo[k]);
            }
            done = n;
        }
    }

    /** What is tried on another wheel, so that the one that stands is left alone. */
    private static final class Aside {
        /** What was found beside the latest answer. */
        int found;
        private final Wheel now;
        private final Wheel trial;

        Aside(Wheel wheel) {
            now = wheel;
            trial = new Wheel();
        }

        int rutBehind(int n) {
            trial.take(now);
            found = trial.rollFar(n);
            return trial.rut;
        }

        int rutOver() {
            trial.take(now);
            trial.rollFar(STEPS_MOST);
            if (!trial.isOver()) {
                return NONE;
            }
            found = trial.goneOnes();
            return trial.rut;
        }

        int writeLimps(int[] row, int n) {
            trial.take(now);
            int limping = 0;
            for (int k = 0; k < n; k++) {
                row[k] = !trial.isOver() && trial.roll() ? 1 : 0;
                limping += row[k];
            }
            return limping;
        }

        int fewestToGate() {
            int fewest = NONE;
            for (int set = 0; set < 1 << now.spokes; set++) {
                int many = Integer.bitCount(set);
                if ((fewest == NONE || many < fewest) && reachesGateWith(set)) {
                    fewest = many;
                    found = set;
                }
            }
            return fewest;
        }

        private boolean reachesGateWith(int set) {
            trial.take(now);
            trial.putInAll(set);
            return trial.reachesGate();
        }

        int bestStand() {
            int best = 0;
            found = FAR + 1;
            for (int i = 0; i < now.spokes; i++) {
                trial.take(now);
                trial.stand = i;
                int limping = trial.limpsIn(FAR);
                if (limping < found) {
                    found = limping;
                    best = i;
                }
            }
            return best;
        }

        int bestChange() {
            trial.take(now);
            found = trial.limpsIn(FAR);
            int best = NONE;
            for (int i = 0; i < now.spokes; i++) {
                for (int j = i + 1; j < now.spokes; j++) {
                    trial.take(now);
                    trial.changeRound(i, j);
                    int limping = trial.limpsIn(FAR);
                    if (limping < found) {
                        found = limping;
                        best = 10 * i + j;
                    }
                }
            }
            return best;
        }

        int goneSets(int[] row, int n) {
            int all = (1 << now.spokes) - 1;
            int many = 0;
            for (int set = 0; set <= all; set++) {
                trial.take(now);
                trial.there = all & ~set;
                if (trial.limpsAs(row, n)) {
                    if (many == 0) {
                        found = set;
                    }
                    many++;
                }
            }
            return many == 0 ? NONE : many;
        }

        int likelyStrengths(int i, int[] row, int n) {
            int set = 0;
            for (int strong = 0; strong <= STRONG_MOST; strong++) {
                trial.take(now);
                trial.strong[i] = strong;
                if (trial.limpsAs(row, n)) {
                    set |= 1 << strong;
                }
            }
            return set;
        }

        int likelyKinds(int i, int[] row, int n) {
            int set = 0;
            for (int kind = 0; kind < KINDS; kind++) {
                trial.take(now);
                trial.kind[i] = kind;
                if (trial.limpsAs(row, n)) {
                    set |= 1 << kind;
                }
            }
            return set;
        }

        int bestDepth(int i) {
            int best = 0;
            found = KINDS + 1;
            for (int depth = 0; depth <= DEPTH_MOST; depth++) {
                int bearing = kindsBearing(i, depth);
                int greater = Math.max(bearing, KINDS - bearing);
                if (greater < found) {
                    found = greater;
                    best = depth;
                }
            }
            return best;
        }

        private int kindsBearing(int i, int depth) {
            int many = 0;
            for (int kind = 0; kind < KINDS; kind++) {
                if (bearing(kind, now.strong[i], now.wear[i], depth, now.dry) >= depth) {
                    many++;
                }
            }
            return many;
        }

        /**
         * The LIMPS that both come to by so many turns more; fresh are SPOKES that were put in.
         * Low is what the carter has sure elsewhere, high what the wright has: where these meet,
         * one of them won't let it come to this, so the rest is not looked at.
         */
        private int fight(int turns, boolean carter, int there, int fresh, int low, int high) {
            if (turns <= 0) {
                return limpsWith(there, fresh);
            }
            int best = fight(turns - 1, !carter, there, fresh, low, high);
            int floor = carter ? Math.max(low, best) : low;
            int ceiling = carter ? high : Math.min(high, best);
            for (int i = 0; i < now.spokes && floor < ceiling; i++) {
                int bit = 1 << i;
                boolean isThere = (there & bit) != 0;
                if (carter && isThere) {
                    best = Math.max(best, fight(turns - 1, false, there & ~bit, fresh, floor, ceiling));
                    floor = Math.max(floor, best);
                } else if (!carter && !isThere) {
                    best = Math.min(best, fight(turns - 1, true, there | bit, fresh | bit, floor, ceiling));
                    ceiling = Math.min(ceiling, best);
                }
            }
            return best;
        }

        private int limpsWith(int there, int fresh) {
            trial.take(now);
            trial.putInAll(fresh);
            trial.there = there;
            return trial.limpsIn(NEAR);
        }

        /** In how many of all equally likely ways it LIMPS so often or less. */
        long waysUpTo(int most, int p) {
            long sum = 0;
            for (int set = 0; set < 1 << now.spokes; set++) {
                long ways = waysToLose(set, p);
                if (ways != 0 && limpsWith(now.there & ~set, 0) <= most) {
                    sum += ways;
                }
            }
            return sum;
        }

        long limpsOverWays(int p) {
            long sum = 0;
            for (int set = 0; set < 1 << now.spokes; set++) {
                long ways = waysToLose(set, p);
                if (ways != 0) {
                    sum += ways * limpsWith(now.there & ~set, 0);
                }
            }
            return sum;
        }

        /** How many ways there are to knock out just this set; none, if some of it are gone. */
        private long waysToLose(int set, int p) {
            if ((set & ~now.there) != 0) {
                return 0;
            }
            int lost = Integer.bitCount(set);
            int left = Integer.bitCount(now.there) - lost;
            return power(p, lost) * power(CHANCES - p, left);
        }
    }
}
