/**
 * Rings of plane curves over a field of p numbers, closed up place by place; quotients on shelves,
 * a book of quotients, rows of numbers. What each call promises stands in the document.
 *
 * <p>All work rows are made once, in the constructors, and used again by every call.
 */
public final class CurveRingsClosed {
    public static final int BAD = -1, STATE = -2, NOT = -3, FULL = -4;

    private static final int EMPTY = -11, NO_PLACE = -12, OTHER_SORT = -13, BELOW_ZERO = -14, NO_NUMBER = -15,
            NO_INT = -16;
    private static final int SHELF_COUNT = 6, BOOK_ROOM = 7, ROW_ROOM = 40, LOADED = 8;
    /** The greatest number of rows and places of a table; tables are laid out by it for every n. */
    private static final int WIDE = 4;
    /** DEGREE of what a text may tell; its numbers lie in rows of SIDE by SIDE. */
    private static final int MOST = 6, SIDE = 7, AREA = 49;
    private static final int TOP_X = 30, TOP_M = 20;
    private static final int RINGS = 19;
    private static final long GREATEST_LONG = 0x7fffffffffffffffL, LEAST_LONG = -GREATEST_LONG - 1;

    private final Reader tape = new Reader();
    private Curve now = new Curve();
    private Curve trial = new Curve();
    private final Curve kept = new Curve();
    private boolean imageTaken = false;
    private final Place[] places = new Place[SIDE];
    private final Shelf[] shelves = new Shelf[SHELF_COUNT];
    private final Quotient[] book = new Quotient[BOOK_ROOM];
    private int booked = 0;
    private final Quotient work = new Quotient(128);
    private final Quotient second = new Quotient(128);
    private final Mill mill = new Mill();
    private final Minors minors = new Minors();
    private final Grower grower = new Grower(mill);
    /** The shelf whose equation stands in minors, or -1; it saves working it out for each number asked. */
    private int told = -1;
    private boolean toldWhole = false;

    public CurveRingsClosed() {
        for (int c = 0; c < SIDE; c++) {
            places[c] = new Place(c);
        }
        for (int s = 0; s < SHELF_COUNT; s++) {
            shelves[s] = new Shelf();
        }
        for (int k = 0; k < BOOK_ROOM; k++) {
            book[k] = new Quotient(TOP_X + 1);
        }
    }

    // ---- field and curve

    public int field(int p) {
        if (p != 2 && p != 3 && p != 5 && p != 7) {
            return BAD;
        }
        int old = now.p;
        now.p = p;
        now.n = 0;
        forgetElements();
        return old;
    }

    public int inverse(int v) {
        int r = Math.floorMod(v, now.p);
        return r == 0 ? NO_NUMBER : inverted(r, now.p);
    }

    public int feed(int n, int word) {
        if (n < 1 || n > 4) {
            return BAD;
        }
        return tape.append(n, word) ? tape.size : FULL;
    }

    public int wipe() {
        int had = tape.size;
        tape.size = 0;
        return had;
    }

    public int curve() {
        int answer = tape.readText(now.p);
        if (answer != 0) {
            return answer;
        }
        trial.p = now.p;
        if (!trial.take(tape.result())) {
            return NOT;
        }
        return enterTrial();
    }

    public int draw(int seed, int n) {
        if (n < 2 || n > WIDE) {
            return BAD;
        }
        int[] f = tape.result();
        for (int e = 0; e < AREA; e++) {
            f[e] = 0;
        }
        f[SIDE * n] = 1;
        int z = seed;
        for (int j = 0; j < n; j++) {
            for (int i = 0; i <= n + 1 - j; i++) {
                z = z * 1103515245 + 12345;
                f[i + SIDE * j] = (z >>> 9) % now.p;
            }
        }
        trial.p = now.p;
        return trial.take(f) ? enterTrial() : BAD;
    }

    public int front(int i, int j) {
        if (now.n == 0) {
            return STATE;
        }
        return i < 0 || i > MOST || j < 0 || j > MOST ? BAD : now.f[i + SIDE * j];
    }

    public int disc(int i) {
        if (now.n == 0) {
            return STATE;
        }
        return i < 0 || i > 40 ? BAD : now.disc.number(i);
    }

    public int order(int c) {
        if (now.n == 0) {
            return STATE;
        }
        return isNumber(c) ? now.order[c] : BAD;
    }

    public int multiplicity(int c, int d) {
        if (now.n == 0) {
            return STATE;
        }
        return isNumber(c) && isNumber(d) ? now.lowestAt(c, d) : BAD;
    }

    public int singular(int c) {
        if (now.n == 0) {
            return STATE;
        }
        if (!isNumber(c)) {
            return BAD;
        }
        int set = 0;
        for (int d = 0; d < now.p; d++) {
            if (now.lowestAt(c, d) >= 2) {
                set |= 1 << d;
            }
        }
        return set;
    }

    // ---- rings

    public int last(int c) {
        if (now.n == 0) {
            return STATE;
        }
        return isNumber(c) ? grower.closed(now, places[c]).top : BAD;
    }

    public int open() {
        if (now.n == 0) {
            return STATE;
        }
        int set = 0;
        for (int c = 0; c < now.p; c++) {
            if (now.mayGrow(c) && grower.closed(now, places[c]).top > 0) {
                set |= 1 << c;
            }
        }
        return set;
    }

    public int depth(int c, int k, int j) {
        if (now.n == 0) {
            return STATE;
        }
        return isRing(c, k) && isPower(j) ? places[c].deep(k, j) : BAD;
    }

    public int digit(int c, int k, int j, int i, int m) {
        if (now.n == 0) {
            return STATE;
        }
        if (!isRing(c, k) || !isPower(j) || !isPower(i) || m < 0 || m > TOP_M) {
            return BAD;
        }
        return places[c].figure(k, j, i, m);
    }

    public int lost(int c, int k) {
        if (now.n == 0) {
            return STATE;
        }
        return isRing(c, k) ? places[c].allDepths(k) : BAD;
    }

    public int classes(int c, int k, int what) {
        if (now.n == 0) {
            return STATE;
        }
        if (!isRing(c, k) || what < 0 || what > 1) {
            return BAD;
        }
        return what == 0 ? places[c].nil[k] : places[c].points[k];
    }

    public int table(int c, int k, int both, int l, int m) {
        if (now.n == 0) {
            return STATE;
        }
        if (!isRing(c, k) || both < 0 || !isPower(l) || m < 0 || m > 60) {
            return BAD;
        }
        if (!isPower(both / WIDE) || !isPower(both % WIDE)) {
            return BAD;
        }
        grower.enter(now, c);
        grower.multiply(places[c], k, both, 60);
        return grower.share[l].number(m);
    }

    public int branches(int c, int d) {
        if (now.n == 0) {
            return STATE;
        }
        if (!isNumber(c) || !isNumber(d)) {
            return BAD;
        }
        Place place = grower.closed(now, places[c]);
        grower.enter(now, c);
        return grower.algebra.countBranches(place, d);
    }

    public int conductor(int c, int what) {
        if (now.n == 0) {
            return STATE;
        }
        if (!isNumber(c) || what < 0 || what > 1) {
            return BAD;
        }
        Place place = grower.closed(now, places[c]);
        // RING 0 is the ring of a plane curve, so as many are lost below it (to the conductor) as above it.
        return what == 0 ? place.deepest(place.top) : place.allDepths(place.top);
    }

    public int genus(int what) {
        if (now.n == 0) {
            return STATE;
        }
        if (what < 0 || what > 2) {
            return BAD;
        }
        int smooth = (now.degree - 1) * (now.degree - 2) / 2;
        return what == 0 ? smooth : what == 1 ? lostInAll() : smooth - lostInAll();
    }

    // ---- elements

    public int element(int shelf) {
        if (now.n == 0) {
            return STATE;
        }
        if (!isShelf(shelf)) {
            return BAD;
        }
        int answer = tape.readText(now.p);
        if (answer != 0) {
            return answer;
        }
        mill.use(now.coef, now.n, now.p);
        mill.reduce(tape.result(), work);
        hold(shelf, work);
        return 1;
    }

    public int basis(int shelf, int c, int k, int j) {
        if (now.n == 0) {
            return STATE;
        }
        if (!isShelf(shelf) || !isRing(c, k) || !isPower(j)) {
            return BAD;
        }
        work.m = places[c].unfold(k, j, work.a);
        work.c = c;
        for (int i = 0; i < WIDE; i++) {
            work.a[i].moveBy(now.p - c, now.p);
        }
        return store(shelf);
    }

    public int over(int shelf, int c, int m) {
        int refused = refusal(shelf, isNumber(c) && m >= 0 && m <= TOP_M);
        if (refused != 0) {
            return refused;
        }
        Quotient z = shelves[shelf].element;
        if (z.m > 0 && z.c != c) {
            return OTHER_SORT;
        }
        work.take(z);
        work.m += m;
        work.c = c;
        return store(shelf);
    }

    public int plus(int a, int b, int to) {
        int refused = pairRefusal(a, b, to);
        if (refused != 0) {
            return refused;
        }
        work.take(shelves[a].element);
        second.take(shelves[b].element);
        int c = work.m > 0 ? work.c : second.c;
        int m = Math.max(work.m, second.m);
        work.widen(m, c, now.p);
        second.widen(m, c, now.p);
        for (int j = 0; j < WIDE; j++) {
            work.a[j].add(second.a[j], 1, 0);
            work.a[j].settle(now.p);
        }
        return store(to);
    }

    public int times(int a, int b, int to) {
        int refused = pairRefusal(a, b, to);
        if (refused != 0) {
            return refused;
        }
        Quotient z = shelves[a].element;
        Quotient w = shelves[b].element;
        mill.use(now.coef, now.n, now.p);
        mill.tabulate(z.a);
        mill.multiply(w.a, work.a);
        work.c = z.m > 0 ? z.c : w.c;
        work.m = z.m + w.m;
        return store(to);
    }

    public int at(int shelf, int j, int i) {
        int refused = refusal(shelf, isPower(j) && i >= 0 && i <= TOP_X);
        return refused != 0 ? refused : shelves[shelf].element.a[j].number(i);
    }

    public int as(int shelf, int k) {
        int refused = refusal(shelf, k == 0 || k == 1);
        if (refused != 0) {
            return refused;
        }
        int m = shelves[shelf].element.m;
        return k == 1 && m == 0 ? OTHER_SORT : m;
    }

    public int place(int shelf) {
        int refused = refusal(shelf, true);
        if (refused != 0) {
            return refused;
        }
        Quotient z = shelves[shelf].element;
        return z.m == 0 ? OTHER_SORT : z.c;
    }

    public int whole(int shelf) {
        int refused = refusal(shelf, true);
        if (refused != 0) {
            return refused;
        }
        return isWhole(shelf) ? 1 : 0;
    }

    public int equation(int shelf, int j, int i) {
        int refused = refusal(shelf, j >= 1 && j <= now.n && i >= 0 && i <= 199);
        if (refused != 0) {
            return refused;
        }
        return isWhole(shelf) ? minors.ofPower(now.n - j).number(i) : NOT;
    }

    public int lies(int shelf) {
        int refused = refusal(shelf, true);
        if (refused != 0) {
            return refused;
        }
        Quotient z = shelves[shelf].element;
        if (z.m == 0) {
            return 0;
        }
        Place place = grower.closed(now, places[z.c]);
        grower.enter(now, z.c);
        work.take(z);
        work.moveToPlace(now.p);
        for (int k = 1; k <= place.top; k++) {
            grower.spreadOut(work.a, work.m, -1);
            if (grower.express(place, k)) {
                return k;
            }
        }
        return NOT;
    }

    public long weigh(int shelf, int v) throws IllegalArgumentException, IllegalStateException, ArithmeticException {
        if (!isShelf(shelf)) {
            throw new IllegalArgumentException("no such shelf");
        }
        if (shelves[shelf].holds != Shelf.ELEMENT) {
            throw new IllegalStateException("no element on the shelf");
        }
        Quotient z = shelves[shelf].element;
        long h = 0;
        for (int j = now.n - 1; j >= 0; j--) {
            for (int i = TOP_X; i >= 0; i--) {
                int more = z.a[j].number(i);
                if (!productIsLong(h, v) || h * v > GREATEST_LONG - more) {
                    throw new ArithmeticException("no long");
                }
                h = h * v + more;
            }
        }
        return h;
    }

    public int note(int shelf) {
        int refused = refusal(shelf, true);
        if (refused != 0) {
            return refused;
        }
        int k = numberInBook(shelves[shelf].element);
        if (k >= 0) {
            return k;
        }
        if (booked >= BOOK_ROOM) {
            return FULL;
        }
        book[booked].take(shelves[shelf].element);
        booked++;
        return booked - 1;
    }

    public int find(int shelf) {
        int refused = refusal(shelf, true);
        if (refused != 0) {
            return refused;
        }
        int k = numberInBook(shelves[shelf].element);
        return k >= 0 ? k : NOT;
    }

    public int copyOut(int k, int shelf) {
        if (now.n == 0) {
            return STATE;
        }
        if (k < 0 || k >= booked || !isShelf(shelf)) {
            return BAD;
        }
        hold(shelf, book[k]);
        return book[k].m;
    }

    // ---- rows

    public int row(int shelf, int sort, int n) {
        if (!isShelf(shelf) || sort < 0 || sort > 1 || n > ROW_ROOM) {
            return BAD;
        }
        if (n < 0) {
            return BELOW_ZERO;
        }
        shelves[shelf].layRow(sort, n);
        return 1;
    }

    public int put(int shelf, int i, long v) {
        int refused = rowRefusal(shelf);
        if (refused != 0) {
            return refused;
        }
        Shelf s = shelves[shelf];
        if (i < 0 || i >= s.size) {
            return NO_PLACE;
        }
        if (s.sort == 0 && (int) v != v) {
            return NO_INT;
        }
        s.numbers[i] = v;
        return 1;
    }

    public long get(int shelf, int i) throws IllegalArgumentException, IllegalStateException {
        if (!isShelf(shelf)) {
            throw new IllegalArgumentException("no such shelf");
        }
        Shelf s = shelves[shelf];
        if (s.holds != Shelf.ROW || i < 0 || i >= s.size) {
            throw new IllegalStateException("no such number of a row");
        }
        return s.numbers[i];
    }

    public int copy(int shelf, int i, int other, int j, int n) {
        if (!isShelf(shelf) || !isShelf(other)) {
            return BAD;
        }
        Shelf from = shelves[shelf];
        Shelf to = shelves[other];
        if (from.holds == Shelf.NOTHING || to.holds == Shelf.NOTHING) {
            return EMPTY;
        }
        if (from.holds != Shelf.ROW || to.holds != Shelf.ROW || from.sort != to.sort) {
            return OTHER_SORT;
        }
        if (n < 0 || i < 0 || j < 0 || n > from.size - i || n > to.size - j) {
            return NO_PLACE;
        }
        System.arraycopy(from.numbers, i, to.numbers, j, n);
        return n;
    }

    public int loads(int shelf, int to) {
        if (now.n == 0) {
            return STATE;
        }
        if (!isShelf(to)) {
            return BAD;
        }
        int refused = rowRefusal(shelf);
        if (refused != 0) {
            return refused;
        }
        Shelf s = shelves[shelf];
        int has = Math.min(s.size, LOADED * now.n);
        work.zero();
        for (int e = 0; e < has; e++) {
            work.a[e / LOADED].write(e % LOADED, (int) Math.floorMod(s.numbers[e], (long) now.p));
        }
        hold(to, work);
        return has;
    }

    public int spills(int shelf, int row) {
        if (now.n == 0) {
            return STATE;
        }
        if (!isShelf(shelf) || !isShelf(row)) {
            return BAD;
        }
        Shelf from = shelves[shelf];
        Shelf to = shelves[row];
        if (from.holds == Shelf.NOTHING || to.holds == Shelf.NOTHING) {
            return EMPTY;
        }
        if (from.holds != Shelf.ELEMENT || from.element.m > 0 || to.holds != Shelf.ROW) {
            return OTHER_SORT;
        }
        int has = Math.min(to.size, LOADED * now.n);
        for (int e = 0; e < has; e++) {
            to.numbers[e] = from.element.a[e / LOADED].number(e % LOADED);
        }
        return has;
    }

    public int clear(int shelf) {
        if (!isShelf(shelf)) {
            return BAD;
        }
        boolean held = shelves[shelf].holds != Shelf.NOTHING;
        shelves[shelf].holds = Shelf.NOTHING;
        return held ? 1 : 0;
    }

    // ---- the image, counts

    public int image() {
        kept.copyFrom(now);
        imageTaken = true;
        return now.p;
    }

    public int back() {
        if (!imageTaken) {
            return NOT;
        }
        now.copyFrom(kept);
        forgetElements();
        return now.p;
    }

    public int count(int what) {
        switch (what) {
            case 0:
                return now.p;
            case 1:
                return now.n;
            case 2:
                return now.n == 0 ? 0 : now.degree;
            case 3:
                return tape.size;
            case 4:
                return shelvesThatHold(Shelf.ELEMENT);
            case 5:
                return shelvesThatHold(Shelf.ROW);
            case 6:
                return booked;
            default:
                return BAD;
        }
    }

    // ---- what the calls share

    private boolean isNumber(int c) {
        return c >= 0 && c < now.p;
    }

    private boolean isPower(int j) {
        return j >= 0 && j < now.n;
    }

    private boolean isRing(int c, int k) {
        return isNumber(c) && k >= 0 && k <= grower.closed(now, places[c]).top;
    }

    private static boolean isShelf(int s) {
        return s >= 0 && s < SHELF_COUNT;
    }

    /** What a call about one ELEMENT answers ahead of its own work; fits: its other numbers are as told. */
    private int refusal(int shelf, boolean fits) {
        if (now.n == 0) {
            return STATE;
        }
        if (!isShelf(shelf) || !fits) {
            return BAD;
        }
        int holds = shelves[shelf].holds;
        return holds == Shelf.NOTHING ? EMPTY : holds == Shelf.ROW ? OTHER_SORT : 0;
    }

    private int pairRefusal(int a, int b, int to) {
        if (now.n == 0) {
            return STATE;
        }
        if (!isShelf(a) || !isShelf(b) || !isShelf(to)) {
            return BAD;
        }
        Shelf s = shelves[a];
        Shelf t = shelves[b];
        if (s.holds == Shelf.NOTHING || t.holds == Shelf.NOTHING) {
            return EMPTY;
        }
        if (s.holds == Shelf.ROW || t.holds == Shelf.ROW) {
            return OTHER_SORT;
        }
        return s.element.m > 0 && t.element.m > 0 && s.element.c != t.element.c ? OTHER_SORT : 0;
    }

    private int rowRefusal(int shelf) {
        if (!isShelf(shelf)) {
            return BAD;
        }
        int holds = shelves[shelf].holds;
        return holds == Shelf.NOTHING ? EMPTY : holds == Shelf.ELEMENT ? OTHER_SORT : 0;
    }

    /** THE CURVE becomes the one in trial, unless its DISC is 0. */
    private int enterTrial() {
        told = -1;
        trial.workOut(mill, minors);
        if (trial.disc.top < 0) {
            return NO_NUMBER;
        }
        Curve old = now;
        now = trial;
        trial = old;
        forgetElements();
        return now.n;
    }

    private void forgetElements() {
        told = -1;
        booked = 0;
        for (int s = 0; s < SHELF_COUNT; s++) {
            if (shelves[s].holds == Shelf.ELEMENT) {
                shelves[s].holds = Shelf.NOTHING;
            }
        }
        for (int c = 0; c < SIDE; c++) {
            places[c].built = false;
        }
    }

    private int lostInAll() {
        int sum = 0;
        for (int c = 0; c < now.p; c++) {
            if (now.mayGrow(c)) {
                Place place = grower.closed(now, places[c]);
                sum += place.allDepths(place.top);
            }
        }
        return sum;
    }

    private void hold(int shelf, Quotient z) {
        if (told == shelf) {
            told = -1;
        }
        shelves[shelf].holds = Shelf.ELEMENT;
        shelves[shelf].element.take(z);
    }

    /** What stands in work comes to a shelf in lowest terms, if there is room for it. */
    private int store(int shelf) {
        work.lower(now.p);
        if (!work.hasRoom()) {
            return FULL;
        }
        hold(shelf, work);
        return work.m;
    }

    private boolean isWhole(int shelf) {
        if (told != shelf) {
            Quotient z = shelves[shelf].element;
            mill.use(now.coef, now.n, now.p);
            mill.tabulate(z.a);
            minors.workOut(mill.rows, now.n, now.p);
            toldWhole = minors.divide(z.c, z.m);
            told = shelf;
        }
        return toldWhole;
    }

    private int numberInBook(Quotient z) {
        for (int k = 0; k < booked; k++) {
            if (book[k].isSame(z)) {
                return k;
            }
        }
        return -1;
    }

    private int shelvesThatHold(int what) {
        int set = 0;
        for (int s = 0; s < SHELF_COUNT; s++) {
            if (shelves[s].holds == what) {
                set |= 1 << s;
            }
        }
        return set;
    }

    private static boolean productIsLong(long h, int v) {
        if (v == 0 || v == 1) {
            return true;
        }
        if (v == -1) {
            return h != LEAST_LONG;
        }
        long ofMax = GREATEST_LONG / v;
        long ofMin = LEAST_LONG / v;
        return v > 0 ? h <= ofMax && h >= ofMin : h >= ofMax && h <= ofMin;
    }

    /** The number that makes 1 with r (1 .. p - 1). */
    private static int inverted(int r, int p) {
        for (int w = 1; w < p; w++) {
            if (r * w % p == 1) {
                return w;
            }
        }
        return 0;
    }

    private static void zeroLines(Line[] lines) {
        for (int i = 0; i < lines.length; i++) {
            lines[i].zero();
        }
    }

    private static Line[] newLines(int count, int room) {
        Line[] lines = new Line[count];
        for (int i = 0; i < count; i++) {
            lines[i] = new Line(room);
        }
        return lines;
    }

    // ---- the parts

    /** A polynomial in one unknown. All numbers above top are 0; top is -1 for the polynomial 0. */
    private static final class Line {
        final int[] v;
        int top = -1;

        Line(int room) {
            v = new int[Math.max(room, 1)];
        }

        int number(int i) {
            return i < 0 || i > top ? 0 : v[i];
        }

        void zero() {
            for (int i = 0; i <= top; i++) {
                v[i] = 0;
            }
            top = -1;
        }

        void take(Line a) {
            int most = a.top < v.length ? a.top : v.length - 1;
            for (int i = 0; i <= most; i++) {
                v[i] = a.v[i];
            }
            for (int i = most + 1; i <= top; i++) {
                v[i] = 0;
            }
            top = most;
        }

        /** Writes number i, where it and all above it are 0 as yet. */
        void write(int i, int value) {
            if (i > top && i < v.length && value != 0) {
                v[i] = value;
                top = i;
            }
        }

        /** Adds factor times a, moved up by shift places; settle must follow. */
        void add(Line a, int factor, int shift) {
            int from = shift < 0 ? -shift : 0;
            int to = a.top + shift < v.length ? a.top : v.length - 1 - shift;
            for (int i = from; i <= to; i++) {
                v[i + shift] += factor * a.v[i];
            }
            top = to >= from && to + shift > top ? to + shift : top;
        }

        /** Adds sign times a times b; settle must follow. */
        void addProduct(Line a, Line b, int sign) {
            int high = a.top + b.top;
            if (a.top < 0 || b.top < 0 || high >= v.length) {
                return;
            }
            for (int i = 0; i <= a.top; i++) {
                int factor = sign * a.v[i];
                for (int j = 0; factor != 0 && j <= b.top; j++) {
                    v[i + j] += factor * b.v[j];
                }
            }
            top = high > top ? high : top;
        }

        /** Takes all numbers by p and finds top anew. */
        void settle(int p) {
            int most = -1;
            for (int i = 0; i <= top; i++) {
                int rest = v[i] % p;
                v[i] = rest < 0 ? rest + p : rest;
                most = rest != 0 ? i : most;
            }
            top = most;
        }

        int valueAt(int c, int p) {
            int value = 0;
            for (int i = top; i >= 0; i--) {
                value = (value * c + v[i]) % p;
            }
            return value;
        }

        /** Becomes its quotient by x - c, without what remains. */
        void divideByRoot(int c, int p) {
            int carry = 0;
            for (int i = top; i >= 0; i--) {
                int sum = (v[i] + c * carry) % p;
                v[i] = carry;
                carry = sum;
            }
            top = top < 0 ? top : top - 1;
        }

        void timesRoot(int c, int p) {
            if (top < 0 || top + 1 >= v.length) {
                return;
            }
            top++;
            for (int i = top; i >= 0; i--) {
                v[i] = ((i > 0 ? v[i - 1] : 0) + (p - c) * v[i]) % p;
            }
        }

        /** Its unknown x becomes x + c. */
        void moveBy(int c, int p) {
            if (c % p == 0) {
                return;
            }
            for (int k = 0; k < top; k++) {
                for (int i = top - 1; i >= k; i--) {
                    v[i] = (v[i] + c * v[i + 1]) % p;
                }
            }
        }
    }

    /** The sum of a_j y^j by (x - c)^m. */
    private static final class Quotient {
        final Line[] a;
        int m = 0;
        int c = 0;

        Quotient(int room) {
            a = newLines(WIDE, room);
        }

        void zero() {
            zeroLines(a);
            m = 0;
            c = 0;
        }

        void take(Quotient z) {
            for (int j = 0; j < WIDE; j++) {
                a[j].take(z.a[j]);
            }
            m = z.m;
            c = z.c;
        }

        boolean isSame(Quotient z) {
            if (m != z.m || c != z.c) {
                return false;
            }
            for (int j = 0; j < WIDE; j++) {
                if (a[j].top != z.a[j].top) {
                    return false;
                }
                for (int i = 0; i <= a[j].top; i++) {
                    if (a[j].v[i] != z.a[j].v[i]) {
                        return false;
                    }
                }
            }
            return true;
        }

        /** Lowest terms; a polynomial has PLACE 0, so that the same ones look the same. */
        void lower(int p) {
            while (m > 0 && isRootOfAll(p)) {
                for (int j = 0; j < WIDE; j++) {
                    a[j].divideByRoot(c, p);
                }
                m--;
            }
            if (m == 0) {
                c = 0;
            }
        }

        private boolean isRootOfAll(int p) {
            for (int j = 0; j < WIDE; j++) {
                if (a[j].valueAt(c, p) != 0) {
                    return false;
                }
            }
            return true;
        }

        /** The same, written by (x - place)^(to): to is m at least. */
        void widen(int to, int place, int p) {
            for (int step = m; step < to; step++) {
                for (int j = 0; j < WIDE; j++) {
                    a[j].timesRoot(place, p);
                }
            }
            m = to;
            c = place;
        }

        void moveToPlace(int p) {
            for (int j = 0; j < WIDE; j++) {
                a[j].moveBy(c, p);
            }
        }

        boolean hasRoom() {
            for (int j = 0; j < WIDE; j++) {
                if (a[j].top > TOP_X) {
                    return false;
                }
            }
            return m <= TOP_M;
        }
    }

    private static final class Shelf {
        static final int NOTHING = 0, ELEMENT = 1, ROW = 2;

        int holds = NOTHING;
        final Quotient element = new Quotient(TOP_X + 1);
        int sort = 0;
        int size = 0;
        final long[] numbers = new long[ROW_ROOM];

        void layRow(int newSort, int newSize) {
            holds = ROW;
            sort = newSort;
            size = newSize;
            for (int i = 0; i < ROW_ROOM; i++) {
                numbers[i] = 0;
            }
        }
    }

    /** THE TAPE and the reading of a text from it; what the text tells is worked out while it is read. */
    private static final class Reader {
        static final int ROOM = 100, DEEPEST = 4, LONGEST = 3, BLANK = 32;
        static final int END = 0, NUMBER = 1, WRONG = 2;

        final int[] bytes = new int[ROOM];
        int size = 0;
        /** Each level of brackets has rows of its own for its sum, its term and its power. */
        private final int[][] held = new int[3 * (DEEPEST + 1)][AREA];
        private final int[] base = new int[AREA];
        private final int[] scratch = new int[AREA];
        private int p = 3;
        private int next = 0;
        private int kind = END;
        private int where = 0;
        private int value = 0;
        private int high = -1;

        boolean append(int n, int word) {
            if (size + n > ROOM) {
                return false;
            }
            for (int i = 0; i < n; i++) {
                bytes[size + i] = word >>> 8 * i & 255;
            }
            size += n;
            return true;
        }

        int[] result() {
            return held[0];
        }

        /** 0, or the answer that tells FAULT or HIGH; the tape is empty then. */
        int readText(int field) {
            p = field;
            next = 0;
            high = -1;
            step();
            boolean fine = readSum(0) && kind == END;
            size = 0;
            if (!fine) {
                return -100 - where;
            }
            return high >= 0 ? -300 - high : 0;
        }

        /** Goes on to the next token; where the text has ended, that is its size. */
        private void step() {
            while (next < size && bytes[next] == BLANK) {
                next++;
            }
            where = next;
            value = 0;
            while (next < size && isDigit(bytes[next])) {
                value = next - where < LONGEST ? 10 * value + bytes[next] - '0' : value;
                next++;
            }
            if (next > where) {
                kind = next - where <= LONGEST ? NUMBER : WRONG;
            } else if (next >= size) {
                kind = END;
            } else {
                kind = isSign(bytes[next]) ? bytes[next] : WRONG;
                next++;
            }
        }

        private static boolean isDigit(int b) {
            return b >= '0' && b <= '9';
        }

        private static boolean isSign(int b) {
            return b == 'x' || b == 'y' || b == '+' || b == '-' || b == '*' || b == '^' || b == '(' || b == ')';
        }

        private boolean readSum(int level) {
            int sign = 1;
            if (kind == '-') {
                sign = p - 1;
                step();
            }
            int[] sum = held[3 * level];
            setNumber(sum, 0);
            boolean more = true;
            for (int round = 0; more && round < ROOM; round++) {
                if (!readTerm(level)) {
                    return false;
                }
                int[] term = held[3 * level + 1];
                for (int e = 0; e < AREA; e++) {
                    sum[e] = (sum[e] + sign * term[e]) % p;
                }
                more = kind == '+' || kind == '-';
                if (more) {
                    sign = kind == '+' ? 1 : p - 1;
                    step();
                }
            }
            return true;
        }

        private boolean readTerm(int level) {
            if (!readPower(level)) {
                return false;
            }
            int[] term = held[3 * level + 1];
            int[] power = held[3 * level + 2];
            System.arraycopy(power, 0, term, 0, AREA);
            for (int round = 0; kind == '*' && round < ROOM; round++) {
                int sign = where;
                step();
                if (!readPower(level)) {
                    return false;
                }
                multiply(term, power, sign);
            }
            return true;
        }

        private boolean readPower(int level) {
            if (!readAtom(level)) {
                return false;
            }
            if (kind != '^') {
                return true;
            }
            int sign = where;
            step();
            if (kind != NUMBER || value > MOST) {
                return false;
            }
            int[] power = held[3 * level + 2];
            System.arraycopy(power, 0, base, 0, AREA);
            setNumber(power, 1);
            for (int k = 0; k < value; k++) {
                multiply(power, base, sign);
            }
            step();
            return true;
        }

        private boolean readAtom(int level) {
            int[] power = held[3 * level + 2];
            if (kind == '(') {
                if (level >= DEEPEST) {
                    return false;
                }
                step();
                if (!readSum(level + 1) || kind != ')') {
                    return false;
                }
                System.arraycopy(held[3 * level + 3], 0, power, 0, AREA);
            } else if (kind == 'x' || kind == 'y') {
                setNumber(power, 0);
                power[kind == 'x' ? 1 : SIDE] = 1;
            } else if (kind == NUMBER) {
                setNumber(power, value % p);
            } else {
                return false;
            }
            step();
            return true;
        }

        private static void setNumber(int[] row, int number) {
            for (int e = 0; e < AREA; e++) {
                row[e] = 0;
            }
            row[0] = number;
        }

        /** a becomes a times b; where that is too high, the sign's place is kept and nothing counts any more. */
        private void multiply(int[] a, int[] b, int sign) {
            if (high >= 0) {
                return;
            }
            setNumber(scratch, 0);
            for (int e = 0; e < AREA; e++) {
                for (int g = 0; a[e] != 0 && g < AREA; g++) {
                    if (b[g] == 0) {
                        continue;
                    }
                    int i = e % SIDE + g % SIDE;
                    int j = e / SIDE + g / SIDE;
                    // a field has no two numbers but 0 that make 0: the highest of a and b make the highest of both
                    if (i + j > MOST) {
                        high = sign;
                        return;
                    }
                    scratch[i + SIDE * j] = (scratch[i + SIDE * j] + a[e] * b[g]) % p;
                }
            }
            System.arraycopy(scratch, 0, a, 0, AREA);
        }
    }

    /** THE FIELD and THE CURVE over it; n is 0 where there is none. */
    private static final class Curve {
        int p = 3;
        int n = 0;
        int degree = 0;
        final int[] f = new int[AREA];
        /** The polynomials in front of y^0 .. y^(n - 1). */
        final Line[] coef = newLines(WIDE, SIDE);
        final Line disc = new Line(64);
        /** How many times x - c divides disc. */
        final int[] order = new int[SIDE];
        private final int[] moved = new int[AREA];

        void copyFrom(Curve other) {
            p = other.p;
            n = other.n;
            degree = other.degree;
            System.arraycopy(other.f, 0, f, 0, AREA);
            System.arraycopy(other.order, 0, order, 0, SIDE);
            disc.take(other.disc);
            for (int j = 0; j < WIDE; j++) {
                coef[j].take(other.coef[j]);
            }
        }

        /** Takes the polynomial g, if it is one of a curve. */
        boolean take(int[] g) {
            int high = 0;
            degree = 0;
            for (int e = 0; e < AREA; e++) {
                f[e] = g[e];
                if (g[e] != 0) {
                    high = Math.max(high, e / SIDE);
                    degree = Math.max(degree, e / SIDE + e % SIDE);
                }
            }
            if (high < 2 || high > WIDE || f[SIDE * high] != 1) {
                return false;
            }
            for (int i = 1; i < SIDE; i++) {
                if (f[i + SIDE * high] != 0) {
                    return false;
                }
            }
            n = high;
            zeroLines(coef);
            for (int e = 0; e < SIDE * n; e++) {
                coef[e / SIDE].write(e % SIDE, f[e]);
            }
            return true;
        }

        void workOut(Mill mill, Minors minors) {
            mill.use(coef, n, p);
            mill.traces();
            minors.workOut(mill.rows, n, p);
            disc.zero();
            disc.add(minors.ofPower(0), n % 2 == 0 ? 1 : -1, 0);
            disc.settle(p);
            for (int c = 0; c < p; c++) {
                order[c] = rootsOfDisc(c, mill.spare);
            }
        }

        private int rootsOfDisc(int c, Line rest) {
            rest.take(disc);
            int most = rest.top;
            int times = 0;
            while (times < most && rest.valueAt(c, p) == 0) {
                rest.divideByRoot(c, p);
                times++;
            }
            return times;
        }

        /** What a ring gains counts twice in DISC, so one that DISC shows less often is closed from the start. */
        boolean mayGrow(int c) {
            return order[c] >= 2;
        }

        /** The least i + j with a number that isn't 0 in front of (x - c)^i (y - d)^j. */
        int lowestAt(int c, int d) {
            System.arraycopy(f, 0, moved, 0, AREA);
            for (int j = 0; j < SIDE; j++) {
                move(SIDE * j, 1, c);
            }
            for (int i = 0; i < SIDE; i++) {
                move(i, SIDE, d);
            }
            int least = 2 * MOST;
            for (int e = 0; e < AREA; e++) {
                if (moved[e] != 0) {
                    least = Math.min(least, e / SIDE + e % SIDE);
                }
            }
            return least;
        }

        private void move(int from, int stride, int by) {
            for (int k = 0; k < MOST; k++) {
                for (int i = MOST - 1; i >= k; i--) {
                    int e = from + i * stride;
                    moved[e] = (moved[e] + by * moved[e + stride]) % p;
                }
            }
        }
    }

    /** Multiplies sums of a_j y^j by way of THE TABLE of one of them. */
    private static final class Mill {
        /** THE TABLE: row i, place j at WIDE i + j. */
        final Line[] rows = newLines(WIDE * WIDE, 64);
        final Line spare = new Line(64);
        /** For each power of y: its polynomial in x, or its TRACE. */
        private final Line[] powers = newLines(SIDE, 40);
        /** The rows only till use tells others. */
        private Line[] coef = rows;
        private int n = 2;
        private int p = 3;

        /** front: the polynomials in front of y^0 .. y^(size - 1) in what counts as 0. */
        void use(Line[] front, int size, int field) {
            coef = front;
            n = size;
            p = field;
        }

        void tabulate(Line[] z) {
            for (int j = 0; j < n; j++) {
                rows[j].take(z[j]);
            }
            for (int i = 1; i < n; i++) {
                Line high = rows[WIDE * (i - 1) + n - 1];
                for (int j = 0; j < n; j++) {
                    Line line = rows[WIDE * i + j];
                    line.zero();
                    if (j > 0) {
                        line.add(rows[WIDE * (i - 1) + j - 1], 1, 0);
                    }
                    line.addProduct(coef[j], high, -1);
                    line.settle(p);
                }
            }
        }

        /** out becomes what stands in row 0 of THE TABLE times w. */
        void multiply(Line[] w, Line[] out) {
            zeroLines(out);
            for (int l = 0; l < n; l++) {
                for (int j = 0; j < n; j++) {
                    out[l].addProduct(w[j], rows[WIDE * j + l], 1);
                }
                out[l].settle(p);
            }
        }

        /** The polynomial g in x and y, its high powers of y by the curve. */
        void reduce(int[] g, Quotient out) {
            zeroLines(powers);
            for (int e = 0; e < AREA; e++) {
                powers[e / SIDE].write(e % SIDE, g[e]);
            }
            for (int j = MOST; j >= n; j--) {
                for (int i = 0; i < n; i++) {
                    powers[j - n + i].addProduct(coef[i], powers[j], -1);
                    powers[j - n + i].settle(p);
                }
            }
            out.zero();
            for (int j = 0; j < n; j++) {
                out.a[j].take(powers[j]);
            }
        }

        /** Row i, place j becomes TRACE of y^(i + j), found by Newton's sums. */
        void traces() {
            for (int k = 0; k <= 2 * n - 2; k++) {
                Line sum = powers[k];
                sum.zero();
                if (k == 0) {
                    sum.write(0, n % p);
                } else if (k <= n) {
                    sum.add(coef[n - k], -k, 0);
                }
                for (int i = 1; i < k && i <= n; i++) {
                    sum.addProduct(coef[n - i], powers[k - i], -1);
                }
                sum.settle(p);
            }
            for (int e = 0; e < WIDE * n; e++) {
                if (e % WIDE < n) {
                    rows[e].take(powers[e / WIDE + e % WIDE]);
                }
            }
        }
    }

    /** The determinant of T times 1 less a table, row by row from the minors of the rows above. */
    private static final class Minors {
        private static final int SETS = 16, STEP = 43, ALL = 48;
        /** Where the minors of a set begin: there is one for each power of T, from 0 to the set's size. */
        private static final int[] START = {0, 1, 3, 5, 8, 10, 13, 16, 20, 22, 25, 28, 32, 35, 39, 43};

        /** For a set of places, in as many rows as it has: in front of T^d at START[set] + d. */
        private final Line[] minor = new Line[ALL];
        private int n = 2;
        private int p = 3;

        Minors() {
            for (int set = 0; set < SETS; set++) {
                int size = Integer.bitCount(set);
                for (int d = 0; d <= size; d++) {
                    minor[START[set] + d] = new Line(STEP * size + 1);
                }
            }
            minor[0].write(0, 1);
        }

        /** In front of T^d (d 0 .. n) of the whole. */
        Line ofPower(int d) {
            return minor[START[(1 << n) - 1] + d];
        }

        void workOut(Line[] rows, int size, int field) {
            n = size;
            p = field;
            for (int set = 1; set < 1 << n; set++) {
                int row = Integer.bitCount(set) - 1;
                for (int d = 0; d <= row + 1; d++) {
                    minor[START[set] + d].zero();
                }
                for (int j = 0; j < n; j++) {
                    if ((set >> j & 1) == 1) {
                        addPlace(set, row, j, rows[WIDE * row + j]);
                    }
                }
                for (int d = 0; d <= row + 1; d++) {
                    minor[START[set] + d].settle(p);
                }
            }
        }

        private void addPlace(int set, int row, int j, Line entry) {
            int rest = set ^ 1 << j;
            int sign = Integer.bitCount(set >> j + 1) % 2 == 0 ? 1 : -1;
            for (int d = 0; d <= row; d++) {
                Line part = minor[START[rest] + d];
                minor[START[set] + d].addProduct(entry, part, -sign);
                if (j == row) {
                    minor[START[set] + d + 1].add(part, sign, 0);
                }
            }
        }

        /** Divides g_j by (x - c)^(m j), as for a table by (x - c)^m; false: one of them can't be divided. */
        boolean divide(int c, int m) {
            for (int j = 1; j <= n; j++) {
                Line g = ofPower(n - j);
                for (int step = 0; step < m * j && g.top >= 0; step++) {
                    if (g.valueAt(c, p) != 0) {
                        return false;
                    }
                    g.divideByRoot(c, p);
                }
            }
            return true;
        }
    }

    /** The rings over one number c, 0 .. top. */
    private static final class Place {
        final int c;
        boolean built = false;
        int top = 0;
        /** In b_j of ring k the numbers in front of y^i at (4 k + j) 4 + i: that by t^m in bits 3 m .. 3 m + 2. */
        private final long[] figures = new long[RINGS * WIDE * WIDE];
        private final int[] depths = new int[RINGS * WIDE];
        final int[] nil = new int[RINGS];
        final int[] points = new int[RINGS];
        /** Products of the classes of the last ring's basis, as in Algebra. */
        final int[] lastLow = new int[WIDE * WIDE * WIDE];

        Place(int number) {
            c = number;
        }

        int figure(int k, int j, int i, int m) {
            return m < 0 || m > TOP_M ? 0 : (int) (figures[(k * WIDE + j) * WIDE + i] >>> 3 * m) & 7;
        }

        boolean hasFigures(int k, int j, int i) {
            return figures[(k * WIDE + j) * WIDE + i] != 0;
        }

        void setFigures(int k, int j, int i, long packed) {
            figures[(k * WIDE + j) * WIDE + i] = packed;
        }

        int deep(int k, int j) {
            return depths[k * WIDE + j];
        }

        void setDeep(int k, int j, int depth) {
            depths[k * WIDE + j] = depth;
        }

        int allDepths(int k) {
            int sum = 0;
            for (int j = 0; j < WIDE; j++) {
                sum += depths[k * WIDE + j];
            }
            return sum;
        }

        /** RING 0: its basis has y^j alone. */
        void start() {
            for (int j = 0; j < WIDE; j++) {
                setDeep(0, j, 0);
                for (int i = 0; i < WIDE; i++) {
                    setFigures(0, j, i, i == j ? 1 : 0);
                }
            }
        }

        int deepest(int k) {
            int deepest = 0;
            for (int j = 0; j < WIDE; j++) {
                deepest = Math.max(deepest, deepestIn(k, j));
            }
            return deepest;
        }

        private int deepestIn(int k, int j) {
            for (int m = TOP_M; m > 0; m--) {
                for (int i = 0; i <= j; i++) {
                    if (figure(k, j, i, m) != 0) {
                        return m;
                    }
                }
            }
            return 0;
        }

        /** b_j of ring k as polynomials in t by t^m: m. */
        int unfold(int k, int j, Line[] out) {
            int m = deepestIn(k, j);
            zeroLines(out);
            for (int i = 0; i <= j; i++) {
                for (int e = 0; e <= m; e++) {
                    out[i].write(e, figure(k, j, i, m - e));
                }
            }
            return m;
        }
    }

    /** Lets the rings over one number grow. All polynomials here are in t = x - c. */
    private static final class Grower {
        /** In spread, t^e stands at e + ZERO. */
        private static final int ZERO = 40, SPAN = TOP_M + 1;

        final Algebra algebra = new Algebra();
        /** What was spread out, as polynomials in t times b_0 .. b_(n - 1). */
        final Line[] share = newLines(WIDE, 128);
        private final Line[] spread = newLines(WIDE, 128);
        private final Line[] coef = newLines(WIDE, SIDE);
        private final Line[] factor = newLines(WIDE, TOP_M + 1);
        private final Line[] product = newLines(WIDE, 80);
        /** One new b_j: the number in front of y^i by t^m at SPAN i + m. */
        private final int[] grown = new int[WIDE * SPAN];
        private final Mill mill;
        private int n = 2;
        private int p = 3;

        Grower(Mill shared) {
            mill = shared;
        }

        void enter(Curve curve, int c) {
            n = curve.n;
            p = curve.p;
            for (int j = 0; j < WIDE; j++) {
                coef[j].take(curve.coef[j]);
                coef[j].moveBy(c, p);
            }
            algebra.enter(n, p);
        }

        /** The place with all its rings, which stay till the curve becomes another. */
        Place closed(Curve curve, Place place) {
            if (place.built) {
                return place;
            }
            enter(curve, place.c);
            place.start();
            int k = 0;
            inspect(place, k);
            boolean mayGrow = curve.mayGrow(place.c);
            while (mayGrow && k < RINGS - 1 && grow(place, k)) {
                k++;
                inspect(place, k);
            }
            System.arraycopy(algebra.low, 0, place.lastLow, 0, algebra.low.length);
            place.top = k;
            place.built = true;
            return place;
        }

        /** Finds what the classes of ring k are like. */
        private void inspect(Place place, int k) {
            algebra.setOne();
            for (int i = 1; i < n; i++) {
                for (int j = i; j < n; j++) {
                    multiply(place, k, WIDE * i + j, 1);
                    for (int l = 0; l < n; l++) {
                        algebra.setProduct(i, j, l, share[l].number(0), share[l].number(1));
                    }
                }
            }
            algebra.findPowers();
            place.nil[k] = algebra.findNil();
            place.points[k] = algebra.countPoints();
        }

        /** share becomes b_i times b_j (both: 4 i + j) of ring k; what is t^(upTo + 1) times RING 0 may lack. */
        void multiply(Place place, int k, int both, int upTo) {
            mill.use(coef, n, p);
            int m = place.unfold(k, both / WIDE, factor);
            mill.tabulate(factor);
            m += place.unfold(k, both % WIDE, factor);
            mill.multiply(factor, product);
            spreadOut(product, m, upTo);
            express(place, k);
        }

        /** spread becomes a by t^m, without what is above t^upTo. */
        void spreadOut(Line[] a, int m, int upTo) {
            zeroLines(spread);
            for (int j = 0; j < n; j++) {
                for (int e = 0; e <= a[j].top && e - m <= upTo; e++) {
                    spread[j].write(e - m + ZERO, a[j].number(e));
                }
            }
        }

        /** What is spread out as a sum of b_l of ring k times the polynomials in share; false: it is none. */
        boolean express(Place place, int k) {
            zeroLines(share);
            for (int l = n - 1; l >= 0; l--) {
                int up = ZERO - place.deep(k, l);
                for (int e = 0; e < up; e++) {
                    if (spread[l].number(e) != 0) {
                        return false;
                    }
                }
                share[l].add(spread[l], 1, -up);
                for (int i = 0; i < l; i++) {
                    for (int m = 1; place.hasFigures(k, l, i) && m <= TOP_M; m++) {
                        int figure = place.figure(k, l, i, m);
                        if (figure != 0) {
                            spread[i].add(share[l], -figure, ZERO - m);
                        }
                    }
                    spread[i].settle(p);
                }
            }
            return true;
        }

        /** Ring k + 1 from what inspect found of ring k; false: it is the same. */
        private boolean grow(Place place, int k) {
            algebra.findMultipliers();
            int gain = 0;
            for (int j = 0; j < n; j++) {
                gain += algebra.gainOf(j);
            }
            if (gain == 0) {
                return false;
            }
            for (int j = 0; j < WIDE; j++) {
                place.setDeep(k + 1, j, j < n ? place.deep(k, j) + algebra.gainOf(j) : 0);
            }
            for (int j = 0; j < WIDE; j++) {
                growOne(place, k, j);
            }
            return true;
        }

        private void growOne(Place place, int k, int j) {
            for (int e = 0; e < grown.length; e++) {
                grown[e] = 0;
            }
            if (j < n) {
                algebra.combine(j);
                for (int i = 0; i < n; i++) {
                    addOld(place, k, i);
                }
                for (int i = j - 1; i >= 0; i--) {
                    takeOff(place, k + 1, i);
                }
            }
            for (int i = 0; i < WIDE; i++) {
                long packed = 0;
                for (int m = 1; i < j && m <= TOP_M; m++) {
                    packed |= (long) grown[SPAN * i + m] << 3 * m;
                }
                place.setFigures(k + 1, j, i, i == j ? 1L << 3 * place.deep(k + 1, j) : packed);
            }
        }

        /** Adds b_i of ring k as algebra.combine wants it. What RING 0 has is left out. */
        private void addOld(Place place, int k, int i) {
            for (int l = 0; l <= i; l++) {
                for (int m = 1; m <= TOP_M; m++) {
                    int sum = algebra.byT[i] * place.figure(k, i, l, m - 1)
                            + algebra.plain[i] * place.figure(k, i, l, m);
                    grown[SPAN * l + m] = (grown[SPAN * l + m] + sum) % p;
                }
            }
        }

        /** Takes off multiples of b_i of ring k till only numbers by t^m with m above DEPTH_i are left. */
        private void takeOff(Place place, int k, int i) {
            int deep = place.deep(k, i);
            for (int m = 1; m <= deep; m++) {
                int times = grown[SPAN * i + m];
                grown[SPAN * i + m] = 0;
                for (int l = 0; times != 0 && l < i; l++) {
                    for (int r = 1; r + deep - m <= TOP_M; r++) {
                        int figure = place.figure(k, i, l, r + deep - m);
                        grown[SPAN * l + r] = (grown[SPAN * l + r] + (p - times) * figure) % p;
                    }
                }
            }
        }
    }

    /**
     * The classes of one ring: sums of the b_i, taken by t, and what is taken by t times t (for the radical).
     * c_0 .. c_(n - 1) is a basis of the radical: c_j has b_j in front where its class j is in nil, else it is t b_j.
     */
    private static final class Algebra {
        private static final int MOST_EQUATIONS = WIDE * WIDE;

        /** b_i b_j has low + t high in front of b_l, at (4 i + j) 4 + l. */
        final int[] low = new int[WIDE * WIDE * WIDE];
        private final int[] high = new int[WIDE * WIDE * WIDE];
        /** Column j: b_j to the p-th, row l: in front of b_l. */
        private final int[] powers = new int[WIDE * WIDE];
        private final int[] equations = new int[MOST_EQUATIONS * WIDE];
        /** Of what solves the equations: where free[j], the one at 4 j has 1 at j and nothing above. */
        private final int[] solution = new int[WIDE * WIDE];
        private final boolean[] free = new boolean[WIDE];
        private final int[] nilBasis = new int[WIDE * WIDE];
        private final boolean[] isNil = new boolean[WIDE];
        /** A new b_j has byT by t, and plain, in front of the old b_i. */
        final int[] byT = new int[WIDE];
        final int[] plain = new int[WIDE];
        private final int[] square = new int[WIDE * WIDE];
        /** Column i: y - d times b_i. */
        private final int[] difference = new int[WIDE * WIDE];
        private final int[] part = new int[WIDE];
        private final int[] partByT = new int[WIDE];
        private int n = 2;
        private int p = 3;

        void enter(int size, int field) {
            n = size;
            p = field;
        }

        /** b_0 is 1 in every ring: 1 by t is in none. */
        void setOne() {
            for (int j = 0; j < n; j++) {
                for (int l = 0; l < n; l++) {
                    setProduct(0, j, l, l == j ? 1 : 0, 0);
                }
            }
        }

        void setProduct(int i, int j, int l, int plainPart, int partOfT) {
            low[(WIDE * i + j) * WIDE + l] = plainPart;
            low[(WIDE * j + i) * WIDE + l] = plainPart;
            high[(WIDE * i + j) * WIDE + l] = partOfT;
            high[(WIDE * j + i) * WIDE + l] = partOfT;
        }

        void findPowers() {
            for (int j = 0; j < n; j++) {
                for (int l = 0; l < n; l++) {
                    part[l] = l == j ? 1 : 0;
                }
                for (int step = 1; step < p; step++) {
                    timesClass(j);
                }
                for (int l = 0; l < n; l++) {
                    powers[WIDE * l + j] = part[l];
                }
            }
        }

        /** part becomes part times b_j. */
        private void timesClass(int j) {
            for (int l = 0; l < n; l++) {
                int sum = 0;
                for (int i = 0; i < n; i++) {
                    sum += part[i] * low[(WIDE * i + j) * WIDE + l];
                }
                partByT[l] = sum % p;
            }
            System.arraycopy(partByT, 0, part, 0, n);
        }

        /** Classes with a power 0: those whose p^e-th is 0, p^e being n at least. */
        int findNil() {
            System.arraycopy(powers, 0, equations, 0, WIDE * WIDE);
            if (p < n) {
                multiplySquares(powers, powers);
                System.arraycopy(square, 0, equations, 0, WIDE * WIDE);
            }
            int nil = solve(n);
            System.arraycopy(solution, 0, nilBasis, 0, WIDE * WIDE);
            for (int j = 0; j < WIDE; j++) {
                isNil[j] = free[j];
            }
            return nil;
        }

        int countPoints() {
            askPowersSame();
            return solve(n);
        }

        /** The first n equations: the p-th power is the class itself. */
        private void askPowersSame() {
            for (int l = 0; l < n; l++) {
                for (int j = 0; j < n; j++) {
                    equations[WIDE * l + j] = powers[WIDE * l + j] + (l == j ? p - 1 : 0);
                }
            }
        }

        /** square becomes a times b. */
        private void multiplySquares(int[] a, int[] b) {
            for (int i = 0; i < n; i++) {
                for (int j = 0; j < n; j++) {
                    int sum = 0;
                    for (int l = 0; l < n; l++) {
                        sum += a[WIDE * i + l] * b[WIDE * l + j];
                    }
                    square[WIDE * i + j] = sum % p;
                }
            }
        }

        /** BRANCHES of c, d, where place is that of c. */
        int countBranches(Place place, int d) {
            System.arraycopy(place.lastLow, 0, low, 0, low.length);
            findPowers();
            findDifference(place, d);
            System.arraycopy(difference, 0, square, 0, WIDE * WIDE);
            for (int step = 1; step < n; step++) {
                System.arraycopy(square, 0, equations, 0, WIDE * WIDE);
                multiplySquares(equations, difference);
            }
            askPowersSame();
            System.arraycopy(square, 0, equations, WIDE * n, WIDE * n);
            return solve(2 * n);
        }

        /** y - d is t^DEPTH_1 b_1 less a polynomial in t, less d: taken by t, b_1 or nothing, and a number. */
        private void findDifference(Place place, int d) {
            int deep = place.deep(place.top, 1);
            int number = 2 * p - place.figure(place.top, 1, 0, deep) - d;
            for (int i = 0; i < n; i++) {
                for (int l = 0; l < n; l++) {
                    int own = deep > 0 ? 0 : low[(WIDE + i) * WIDE + l];
                    difference[WIDE * l + i] = (i == l ? own + number : own) % p;
                }
            }
        }

        /** Solves the first count equations in n unknowns: how many free ones there are. */
        private int solve(int count) {
            int used = 0;
            for (int j = 0; j < n; j++) {
                int found = findEquation(used, count, j);
                free[j] = found < 0;
                if (found >= 0) {
                    sweep(used, found, count, j);
                    part[j] = used;
                    used++;
                }
            }
            for (int j = 0; j < n; j++) {
                for (int i = 0; i < n; i++) {
                    int value = free[i] ? 0 : (p - equations[WIDE * part[i] + j]) % p;
                    solution[WIDE * j + i] = i == j ? 1 : value;
                }
            }
            return n - used;
        }

        private int findEquation(int from, int count, int j) {
            for (int r = from; r < count; r++) {
                if (equations[WIDE * r + j] % p != 0) {
                    return r;
                }
            }
            return -1;
        }

        /** Equation found goes to row at, gets 1 in front of unknown j, which leaves all others. */
        private void sweep(int at, int found, int count, int j) {
            int by = inverted(equations[WIDE * found + j] % p, p);
            for (int i = 0; i < n; i++) {
                int swap = equations[WIDE * at + i];
                equations[WIDE * at + i] = equations[WIDE * found + i] * by % p;
                if (at != found) {
                    equations[WIDE * found + i] = swap;
                }
            }
            for (int r = 0; r < count; r++) {
                int times = equations[WIDE * r + j] % p;
                for (int i = 0; r != at && times != 0 && i < n; i++) {
                    int less = (p - times) * equations[WIDE * at + i];
                    equations[WIDE * r + i] = (equations[WIDE * r + i] + less) % p;
                }
            }
        }

        /** Finds the sums u of c_j for which u by t multiplies the radical into itself. */
        void findMultipliers() {
            for (int j = 0; j < n; j++) {
                for (int l = 0; l < n; l++) {
                    // c_j times t b_l is t times one of the radical, and so is t b_j times c_l
                    boolean counts = isNil[j] && isNil[l];
                    if (counts) {
                        multiplyRadical(j, l);
                    }
                    for (int i = 0; i < n; i++) {
                        equations[WIDE * (n * l + i) + j] = counts ? part[i] : 0;
                    }
                }
            }
            solve(n * n);
        }

        /**
         * part becomes c_j c_l as a sum of c_i, taken by t; both have no t in front. In front of c_i = b_i + .. stands
         * what is in front of b_i; in front of c_i = t b_i what is in front of t b_i, less what the others bring there.
         */
        private void multiplyRadical(int j, int l) {
            for (int i = 0; i < n; i++) {
                int sum = 0;
                int sumByT = 0;
                for (int a = 0; a < n; a++) {
                    for (int b = 0; b < n; b++) {
                        int times = nilBasis[WIDE * j + a] * nilBasis[WIDE * l + b] % p;
                        sum += times * low[(WIDE * a + b) * WIDE + i];
                        sumByT += times * high[(WIDE * a + b) * WIDE + i];
                    }
                }
                part[i] = sum % p;
                partByT[i] = sumByT % p;
            }
            for (int i = n - 1; i >= 0; i--) {
                if (!isNil[i]) {
                    part[i] = partByT[i];
                    continue;
                }
                for (int a = 0; a < i; a++) {
                    int less = (p - nilBasis[WIDE * i + a]) % p;
                    partByT[a] = (partByT[a] + less * partByT[i]) % p;
                }
            }
        }

        /** By how much DEPTH_j grows: 1 by the division by t, less 1 where c_j is t b_j. */
        int gainOf(int j) {
            return (free[j] ? 1 : 0) - (isNil[j] ? 0 : 1);
        }

        /** byT, plain: how the new b_j comes from the old ones. It is c_j itself only where that has no t in front. */
        void combine(int j) {
            for (int i = 0; i < WIDE; i++) {
                byT[i] = 0;
                plain[i] = free[j] ? 0 : nilBasis[WIDE * j + i];
            }
            for (int i = 0; free[j] && i < n; i++) {
                int times = solution[WIDE * j + i];
                for (int a = 0; isNil[i] && a < n; a++) {
                    byT[a] = (byT[a] + times * nilBasis[WIDE * i + a]) % p;
                }
                plain[i] = isNil[i] ? 0 : times;
            }
        }
    }
}
