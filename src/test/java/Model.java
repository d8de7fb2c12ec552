import java.math.BigInteger;
import java.util.ArrayList;
import java.util.Arrays;
import java.util.HashMap;
import java.util.List;
import java.util.Map;

/** The document's face once more, in the plainest way that its words allow; slow, and shares no code with the class. */
final class Model {
    static final int BAD = -1, STATE = -2, NOT = -3, FULL = -4;

    private static final class Row {
        final int sort;
        final long[] numbers;

        Row(int sort, int size) {
            this.sort = sort;
            numbers = new long[size];
        }
    }

    private static final Map<String, Rings> KNOWN = new HashMap<>();

    private int p = 3;
    private int[][] f = null;
    private StringBuilder tape = new StringBuilder();
    private final Object[] shelves = new Object[6];
    private final List<Fraction> book = new ArrayList<>();
    private int keptP = 0;
    private int[][] keptF = null;
    private Fraction.Over over = null;
    private int[] disc = null;

    private static int n(int[][] g) {
        int n = 0;
        for (int[] column : g) {
            for (int j = 0; j < 7; j++) {
                n = column[j] != 0 ? Math.max(n, j) : n;
            }
        }
        return n;
    }

    private static Fraction.Over over(int[][] g, int p) {
        int[][] coef = new int[n(g)][];
        for (int j = 0; j < coef.length; j++) {
            int[] line = new int[7];
            for (int i = 0; i < 7; i++) {
                line[i] = g[i][j];
            }
            coef[j] = Poly.trim(line, p);
        }
        return new Fraction.Over(coef.length, p, coef);
    }

    private static int[] disc(Fraction.Over o) {
        int[][][] table = new int[o.n][o.n][];
        for (int i = 0; i < o.n; i++) {
            for (int j = 0; j < o.n; j++) {
                table[i][j] = Fraction.ofPower(o, i + j).trace();
            }
        }
        return Poly.sum(Poly.ZERO, Fraction.characteristic(table, o.p)[0], o.n % 2 == 0 ? 1 : -1, o.p);
    }

    private int enter(int[][] g) {
        Fraction.Over o = over(g, p);
        int[] d = disc(o);
        if (d.length == 0) {
            return -15;
        }
        set(g);
        return o.n;
    }

    private void set(int[][] g) {
        f = g;
        over = g == null ? null : over(g, p);
        disc = g == null ? null : disc(over);
        book.clear();
        for (int s = 0; s < 6; s++) {
            if (shelves[s] instanceof Fraction) {
                shelves[s] = null;
            }
        }
    }

    private Rings rings(int c) {
        Fraction.Over there = over.moved(c);
        return KNOWN.computeIfAbsent(p + Arrays.deepToString(there.coef), key -> new Rings(there));
    }

    private boolean isNumber(int c) {
        return c >= 0 && c < p;
    }

    private boolean isRing(int c, int k) {
        return isNumber(c) && k >= 0 && k < rings(c).rings.size();
    }

    private boolean isPower(int j) {
        return j >= 0 && j < over.n;
    }

    private static boolean isShelf(int s) {
        return s >= 0 && s < 6;
    }

    int field(int q) {
        if (q != 2 && q != 3 && q != 5 && q != 7) {
            return BAD;
        }
        int old = p;
        p = q;
        set(null);
        return old;
    }

    int inverse(int v) {
        for (int w = 0; w < p; w++) {
            if (Math.floorMod((long) v * w, (long) p) == 1) {
                return w;
            }
        }
        return -15;
    }

    int feed(int n, int word) {
        if (n < 1 || n > 4) {
            return BAD;
        }
        if (tape.length() + n > 100) {
            return FULL;
        }
        for (int i = 0; i < n; i++) {
            tape.append((char) (word & 255));
            word >>= 8;
        }
        return tape.length();
    }

    int wipe() {
        int size = tape.length();
        tape = new StringBuilder();
        return size;
    }

    int curve() {
        TextReader reader = new TextReader(tape.toString(), p);
        wipe();
        if (reader.answer != 0) {
            return reader.answer;
        }
        int[][] g = reader.result;
        int n = n(g);
        if (n < 2 || n > 4 || g[0][n] != 1) {
            return NOT;
        }
        for (int i = 1; i < 7; i++) {
            if (g[i][n] != 0) {
                return NOT;
            }
        }
        return enter(g);
    }

    int draw(int seed, int n) {
        if (n < 2 || n > 4) {
            return BAD;
        }
        int[][] g = new int[7][7];
        g[0][n] = 1;
        int z = seed;
        for (int j = 0; j <= n - 1; j++) {
            for (int i = 0; i <= n + 1 - j; i++) {
                z = z * 1103515245 + 12345;
                g[i][j] = (z >>> 9) % p;
            }
        }
        return enter(g);
    }

    int front(int i, int j) {
        return f == null ? STATE : i < 0 || i > 6 || j < 0 || j > 6 ? BAD : f[i][j];
    }

    int disc(int i) {
        return f == null ? STATE : i < 0 || i > 40 ? BAD : Poly.at(disc, i);
    }

    int order(int c) {
        if (f == null) {
            return STATE;
        }
        if (!isNumber(c)) {
            return BAD;
        }
        int[] moved = Poly.moved(disc, c, p);
        int k = 0;
        while (moved[k] == 0) {
            k++;
        }
        return k;
    }

    int multiplicity(int c, int d) {
        if (f == null) {
            return STATE;
        }
        if (!isNumber(c) || !isNumber(d)) {
            return BAD;
        }
        // f = sum of f_ij (t + c)^i (s + d)^j
        int[][] sum = new int[7][7];
        for (int i = 0; i < 7; i++) {
            for (int j = 0; j < 7; j++) {
                int[] a = Poly.power(Poly.root(-c, p), i, p);
                int[] b = Poly.power(Poly.root(-d, p), j, p);
                for (int k = 0; k < a.length; k++) {
                    for (int l = 0; l < b.length; l++) {
                        sum[k][l] = (sum[k][l] + f[i][j] * a[k] * b[l]) % p;
                    }
                }
            }
        }
        for (int total = 0; total <= 6; total++) {
            for (int i = 0; i <= total; i++) {
                if (sum[i][total - i] != 0) {
                    return total;
                }
            }
        }
        throw new IllegalStateException();
    }

    int singular(int c) {
        if (f == null) {
            return STATE;
        }
        if (!isNumber(c)) {
            return BAD;
        }
        int set = 0;
        for (int d = 0; d < p; d++) {
            set |= multiplicity(c, d) >= 2 ? 1 << d : 0;
        }
        return set;
    }

    int last(int c) {
        return f == null ? STATE : !isNumber(c) ? BAD : rings(c).rings.size() - 1;
    }

    int open() {
        if (f == null) {
            return STATE;
        }
        int set = 0;
        for (int c = 0; c < p; c++) {
            set |= last(c) != 0 ? 1 << c : 0;
        }
        return set;
    }

    int depth(int c, int k, int j) {
        return f == null ? STATE : !isRing(c, k) || !isPower(j) ? BAD : rings(c).rings.get(k).depth(j);
    }

    int digit(int c, int k, int j, int i, int m) {
        if (f == null) {
            return STATE;
        }
        if (!isRing(c, k) || !isPower(j) || !isPower(i) || m < 0 || m > 20) {
            return BAD;
        }
        return rings(c).rings.get(k).basis(j)[i][m];
    }

    int lost(int c, int k) {
        return f == null ? STATE : !isRing(c, k) ? BAD : rings(c).rings.get(k).lost();
    }

    int classes(int c, int k, int what) {
        if (f == null) {
            return STATE;
        }
        if (!isRing(c, k) || what < 0 || what > 1) {
            return BAD;
        }
        Rings.Ring ring = rings(c).rings.get(k);
        return what == 0 ? ring.nil : ring.points;
    }

    int table(int c, int k, int both, int l, int m) {
        if (f == null) {
            return STATE;
        }
        if (!isRing(c, k) || !isPower(l) || m < 0 || m > 60) {
            return BAD;
        }
        for (int i = 0; i < over.n; i++) {
            for (int j = 0; j < over.n; j++) {
                if (4 * i + j == both) {
                    return Poly.at(rings(c).rings.get(k).table(i, j)[l], m);
                }
            }
        }
        return BAD;
    }

    int branches(int c, int d) {
        return f == null ? STATE : !isNumber(c) || !isNumber(d) ? BAD : rings(c).branches(d);
    }

    int conductor(int c, int what) {
        if (f == null) {
            return STATE;
        }
        if (!isNumber(c) || what < 0 || what > 1) {
            return BAD;
        }
        return what == 0 ? rings(c).conductor() : rings(c).codimension();
    }

    int genus(int what) {
        if (f == null) {
            return STATE;
        }
        if (what < 0 || what > 2) {
            return BAD;
        }
        int degree = TextReader.degree(f);
        int half = (degree - 1) * (degree - 2) / 2;
        int lost = 0;
        for (int c = 0; c < p; c++) {
            lost += rings(c).top().lost();
        }
        return new int[] {half, lost, half - lost}[what];
    }

    int element(int shelf) {
        if (f == null) {
            return STATE;
        }
        if (!isShelf(shelf)) {
            return BAD;
        }
        TextReader reader = new TextReader(tape.toString(), p);
        wipe();
        if (reader.answer != 0) {
            return reader.answer;
        }
        int[][] a = new int[7][7];
        for (int i = 0; i < 7; i++) {
            for (int j = 0; j < 7; j++) {
                a[j][i] = reader.result[i][j];
            }
        }
        shelves[shelf] = new Fraction(over, a, 0, -1);
        return 1;
    }

    private int store(int shelf, Fraction z) {
        if (!z.hasRoom()) {
            return FULL;
        }
        shelves[shelf] = z;
        return z.m;
    }

    int basis(int shelf, int c, int k, int j) {
        if (f == null) {
            return STATE;
        }
        if (!isShelf(shelf) || !isRing(c, k) || !isPower(j)) {
            return BAD;
        }
        Fraction b = rings(c).rings.get(k).basisFraction(j);
        int[][] a = new int[over.n][];
        for (int i = 0; i < over.n; i++) {
            a[i] = Poly.moved(b.a[i], p - c, p);
        }
        return store(shelf, new Fraction(over, a, b.m, c));
    }

    private int refused(int shelf, boolean fits) {
        if (f == null) {
            return STATE;
        }
        if (!isShelf(shelf) || !fits) {
            return BAD;
        }
        return shelves[shelf] == null ? -11 : shelves[shelf] instanceof Row ? -13 : 0;
    }

    private Fraction of(int shelf) {
        return (Fraction) shelves[shelf];
    }

    int over(int shelf, int c, int m) {
        int refused = refused(shelf, isNumber(c) && m >= 0 && m <= 20);
        if (refused != 0) {
            return refused;
        }
        if (of(shelf).m > 0 && of(shelf).c != c) {
            return -13;
        }
        return store(shelf, of(shelf).by(c, m));
    }

    private int refusedPair(int a, int b, int to) {
        if (f == null) {
            return STATE;
        }
        if (!isShelf(a) || !isShelf(b) || !isShelf(to)) {
            return BAD;
        }
        if (shelves[a] == null || shelves[b] == null) {
            return -11;
        }
        if (shelves[a] instanceof Row || shelves[b] instanceof Row) {
            return -13;
        }
        return of(a).m > 0 && of(b).m > 0 && of(a).c != of(b).c ? -13 : 0;
    }

    int plus(int a, int b, int to) {
        int refused = refusedPair(a, b, to);
        return refused != 0 ? refused : store(to, of(a).plus(of(b), 1));
    }

    int times(int a, int b, int to) {
        int refused = refusedPair(a, b, to);
        return refused != 0 ? refused : store(to, of(a).times(of(b)));
    }

    int at(int shelf, int j, int i) {
        int refused = refused(shelf, f != null && isPower(j) && i >= 0 && i <= 30);
        return refused != 0 ? refused : Poly.at(of(shelf).a[j], i);
    }

    int as(int shelf, int k) {
        int refused = refused(shelf, k == 0 || k == 1);
        return refused != 0 ? refused : k == 1 && of(shelf).m == 0 ? -13 : of(shelf).m;
    }

    int place(int shelf) {
        int refused = refused(shelf, true);
        return refused != 0 ? refused : of(shelf).m == 0 ? -13 : of(shelf).c;
    }

    int whole(int shelf) {
        int refused = refused(shelf, true);
        return refused != 0 ? refused : of(shelf).equation() == null ? 0 : 1;
    }

    int equation(int shelf, int j, int i) {
        int refused = refused(shelf, f != null && j >= 1 && j <= over.n && i >= 0 && i <= 199);
        if (refused != 0) {
            return refused;
        }
        int[][] g = of(shelf).equation();
        return g == null ? NOT : Poly.at(g[j], i);
    }

    int lies(int shelf) {
        int refused = refused(shelf, true);
        if (refused != 0) {
            return refused;
        }
        Fraction z = of(shelf);
        if (z.m == 0) {
            return 0;
        }
        Rings there = rings(z.c);
        Fraction moved = z.moved(there.over, z.c);
        for (int k = 0; k < there.rings.size(); k++) {
            if (there.rings.get(k).has(moved)) {
                return k;
            }
        }
        return NOT;
    }

    long weigh(int shelf, int v) {
        if (!isShelf(shelf)) {
            throw new IllegalArgumentException();
        }
        if (!(shelves[shelf] instanceof Fraction z)) {
            throw new IllegalStateException();
        }
        BigInteger h = BigInteger.ZERO;
        for (int j = over.n - 1; j >= 0; j--) {
            for (int i = 30; i >= 0; i--) {
                h = h.multiply(BigInteger.valueOf(v));
                h.longValueExact();
                h = h.add(BigInteger.valueOf(Poly.at(z.a[j], i)));
                h.longValueExact();
            }
        }
        return h.longValueExact();
    }

    private int inBook(int shelf) {
        for (int k = 0; k < book.size(); k++) {
            if (book.get(k).isSame(of(shelf))) {
                return k;
            }
        }
        return NOT;
    }

    int note(int shelf) {
        int refused = refused(shelf, true);
        if (refused != 0) {
            return refused;
        }
        if (inBook(shelf) >= 0) {
            return inBook(shelf);
        }
        if (book.size() == 7) {
            return FULL;
        }
        book.add(of(shelf));
        return book.size() - 1;
    }

    int find(int shelf) {
        int refused = refused(shelf, true);
        return refused != 0 ? refused : inBook(shelf);
    }

    int copyOut(int k, int shelf) {
        if (f == null) {
            return STATE;
        }
        if (k < 0 || k >= book.size() || !isShelf(shelf)) {
            return BAD;
        }
        return store(shelf, book.get(k));
    }

    int row(int shelf, int sort, int n) {
        if (!isShelf(shelf) || sort < 0 || sort > 1 || n > 40) {
            return BAD;
        }
        if (n < 0) {
            return -14;
        }
        shelves[shelf] = new Row(sort, n);
        return 1;
    }

    int put(int shelf, int i, long v) {
        if (!isShelf(shelf)) {
            return BAD;
        }
        if (shelves[shelf] == null) {
            return -11;
        }
        if (!(shelves[shelf] instanceof Row row)) {
            return -13;
        }
        if (i < 0 || i >= row.numbers.length) {
            return -12;
        }
        if (row.sort == 0 && v != (int) v) {
            return -16;
        }
        row.numbers[i] = v;
        return 1;
    }

    long get(int shelf, int i) {
        if (!isShelf(shelf)) {
            throw new IllegalArgumentException();
        }
        if (!(shelves[shelf] instanceof Row row) || i < 0 || i >= row.numbers.length) {
            throw new IllegalStateException();
        }
        return row.numbers[i];
    }

    int copy(int shelf, int i, int other, int j, int n) {
        if (!isShelf(shelf) || !isShelf(other)) {
            return BAD;
        }
        if (shelves[shelf] == null || shelves[other] == null) {
            return -11;
        }
        if (!(shelves[shelf] instanceof Row from) || !(shelves[other] instanceof Row to) || from.sort != to.sort) {
            return -13;
        }
        try {
            System.arraycopy(from.numbers.clone(), i, to.numbers, j, n);
        } catch (IndexOutOfBoundsException e) {
            return -12;
        }
        return n;
    }

    int loads(int shelf, int to) {
        if (f == null) {
            return STATE;
        }
        if (!isShelf(shelf) || !isShelf(to)) {
            return BAD;
        }
        if (shelves[shelf] == null) {
            return -11;
        }
        if (!(shelves[shelf] instanceof Row row)) {
            return -13;
        }
        int[][] a = new int[over.n][8];
        int has = 0;
        for (int j = 0; j < over.n; j++) {
            for (int i = 0; i < 8; i++) {
                if (8 * j + i < row.numbers.length) {
                    a[j][i] = (int) Math.floorMod(row.numbers[8 * j + i], (long) p);
                    has++;
                }
            }
        }
        shelves[to] = new Fraction(over, a, 0, -1);
        return has;
    }

    int spills(int shelf, int to) {
        if (f == null) {
            return STATE;
        }
        if (!isShelf(shelf) || !isShelf(to)) {
            return BAD;
        }
        if (shelves[shelf] == null || shelves[to] == null) {
            return -11;
        }
        if (!(shelves[shelf] instanceof Fraction z) || z.m > 0 || !(shelves[to] instanceof Row row)) {
            return -13;
        }
        int has = 0;
        for (int j = 0; j < over.n; j++) {
            for (int i = 0; i < 8; i++) {
                if (8 * j + i < row.numbers.length) {
                    row.numbers[8 * j + i] = Poly.at(z.a[j], i);
                    has++;
                }
            }
        }
        return has;
    }

    int clear(int shelf) {
        if (!isShelf(shelf)) {
            return BAD;
        }
        int held = shelves[shelf] == null ? 0 : 1;
        shelves[shelf] = null;
        return held;
    }

    int image() {
        keptP = p;
        keptF = f;
        return p;
    }

    int back() {
        if (keptP == 0) {
            return NOT;
        }
        p = keptP;
        set(keptF);
        return p;
    }

    int count(int what) {
        int elements = 0;
        int rows = 0;
        for (int s = 0; s < 6; s++) {
            elements |= shelves[s] instanceof Fraction ? 1 << s : 0;
            rows |= shelves[s] instanceof Row ? 1 << s : 0;
        }
        int[] counts = {p, f == null ? 0 : over.n, f == null ? 0 : TextReader.degree(f), tape.length(), elements, rows,
            book.size()};
        return what < 0 || what > 6 ? BAD : counts[what];
    }
}
