import java.util.Arrays;

/** A sum of a_j y^j by (x - c)^m over a curve y^n + .. = 0, never changed; for Model alone. */
final class Fraction {
    /** The curve that counts: its n, its field, its polynomials in front of y^0 .. y^(n - 1). */
    static final class Over {
        final int n;
        final int p;
        final int[][] coef;

        Over(int n, int p, int[][] coef) {
            this.n = n;
            this.p = p;
            this.coef = coef;
        }

        Over moved(int c) {
            int[][] by = new int[n][];
            for (int j = 0; j < n; j++) {
                by[j] = Poly.moved(coef[j], c, p);
            }
            return new Over(n, p, by);
        }
    }

    final Over over;
    final int[][] a;
    final int m;
    final int c;

    /** Any number of powers of y; they are brought below n, and all to lowest terms. */
    Fraction(Over over, int[][] given, int m, int c) {
        this.over = over;
        int p = over.p;
        int[][] b = new int[Math.max(given.length, over.n)][];
        for (int j = 0; j < b.length; j++) {
            b[j] = j < given.length ? Poly.trim(given[j], p) : Poly.ZERO;
        }
        for (int j = b.length - 1; j >= over.n; j--) {
            for (int i = 0; i < over.n; i++) {
                b[j - over.n + i] = Poly.sum(b[j - over.n + i], Poly.product(over.coef[i], b[j], p), -1, p);
            }
        }
        b = Arrays.copyOf(b, over.n);
        while (m > 0) {
            int[][] lower = new int[over.n][];
            boolean all = true;
            for (int j = 0; j < over.n; j++) {
                lower[j] = Poly.exact(b[j], Poly.root(c, p), p);
                all &= lower[j] != null;
            }
            if (!all) {
                break;
            }
            b = lower;
            m--;
        }
        this.a = b;
        this.m = m;
        this.c = m == 0 ? -1 : c;
    }

    static Fraction ofPower(Over over, int j) {
        int[][] b = new int[j + 1][];
        Arrays.fill(b, Poly.ZERO);
        b[j] = Poly.ONE;
        return new Fraction(over, b, 0, -1);
    }

    private int placeWith(Fraction z) {
        return m > 0 ? c : z.c;
    }

    Fraction plus(Fraction z, int factor) {
        int at = placeWith(z);
        int most = Math.max(m, z.m);
        int[][] b = new int[over.n][];
        for (int j = 0; j < over.n; j++) {
            int[] own = most == m ? a[j] : Poly.product(a[j], Poly.power(Poly.root(at, over.p), most - m, over.p), over.p);
            int[] his = most == z.m ? z.a[j]
                    : Poly.product(z.a[j], Poly.power(Poly.root(at, over.p), most - z.m, over.p), over.p);
            b[j] = Poly.sum(own, his, factor, over.p);
        }
        return new Fraction(over, b, most, at);
    }

    Fraction times(Fraction z) {
        int[][] b = new int[2 * over.n - 1][];
        Arrays.fill(b, Poly.ZERO);
        for (int i = 0; i < over.n; i++) {
            for (int j = 0; j < over.n; j++) {
                b[i + j] = Poly.sum(b[i + j], Poly.product(a[i], z.a[j], over.p), 1, over.p);
            }
        }
        return new Fraction(over, b, m + z.m, placeWith(z));
    }

    Fraction timesLine(int[] line) {
        int[][] b = new int[over.n][];
        for (int j = 0; j < over.n; j++) {
            b[j] = Poly.product(a[j], line, over.p);
        }
        return new Fraction(over, b, m, c);
    }

    Fraction power(int k) {
        Fraction z = ofPower(over, 0);
        for (int i = 0; i < k; i++) {
            z = z.times(this);
        }
        return z;
    }

    Fraction by(int place, int k) {
        return new Fraction(over, a, m + k, place);
    }

    /** The same by t = x - place: a fraction over the moved curve, whose place is 0. */
    Fraction moved(Over there, int place) {
        int[][] b = new int[over.n][];
        for (int j = 0; j < over.n; j++) {
            b[j] = Poly.moved(a[j], place, over.p);
        }
        return new Fraction(there, b, m, 0);
    }

    boolean isSame(Fraction z) {
        return m == z.m && c == z.c && Arrays.deepEquals(a, z.a);
    }

    boolean hasRoom() {
        for (int[] line : a) {
            if (line.length > 31) {
                return false;
            }
        }
        return m <= 20;
    }

    /** The determinant of T - table by its definition: in front of T^d, a polynomial in x. */
    static int[][] characteristic(int[][][] table, int p) {
        int n = table.length;
        int[][] sum = new int[n + 1][];
        Arrays.fill(sum, Poly.ZERO);
        permute(table, p, 0, new int[n], 0, sum);
        return sum;
    }

    private static void permute(int[][][] table, int p, int row, int[] chosen, int used, int[][] sum) {
        int n = table.length;
        if (row == n) {
            int sign = 1;
            for (int i = 0; i < n; i++) {
                for (int j = 0; j < i; j++) {
                    sign = chosen[j] > chosen[i] ? -sign : sign;
                }
            }
            int[][] part = new int[n + 1][];
            Arrays.fill(part, Poly.ZERO);
            part[0] = Poly.trim(new int[] {sign}, p);
            for (int i = 0; i < n; i++) {
                int[][] next = new int[n + 1][];
                for (int d = 0; d <= n; d++) {
                    next[d] = Poly.sum(Poly.ZERO, Poly.product(part[d], table[i][chosen[i]], p), -1, p);
                    if (d > 0 && chosen[i] == i) {
                        next[d] = Poly.sum(next[d], part[d - 1], 1, p);
                    }
                }
                part = next;
            }
            for (int d = 0; d <= n; d++) {
                sum[d] = Poly.sum(sum[d], part[d], 1, p);
            }
            return;
        }
        for (int j = 0; j < n; j++) {
            if ((used >> j & 1) == 0) {
                chosen[row] = j;
                permute(table, p, row + 1, chosen, used | 1 << j, sum);
            }
        }
    }

    /** THE TABLE of what stands above (x - c)^m. */
    int[][][] table() {
        int[][][] rows = new int[over.n][][];
        Fraction z = new Fraction(over, a, 0, -1);
        for (int i = 0; i < over.n; i++) {
            rows[i] = z.times(ofPower(over, i)).a;
        }
        return rows;
    }

    int[] trace() {
        int[] sum = Poly.ZERO;
        int[][][] rows = table();
        for (int i = 0; i < over.n; i++) {
            sum = Poly.sum(sum, rows[i][i], 1, over.p);
        }
        return sum;
    }

    /** g_0 = 1, g_1 .. g_n, or null where one is no polynomial. */
    int[][] equation() {
        int n = over.n;
        int[][] det = characteristic(table(), over.p);
        int[][] g = new int[n + 1][];
        for (int j = 0; j <= n; j++) {
            int[] by = m == 0 ? Poly.ONE : Poly.power(Poly.root(c, over.p), m * j, over.p);
            g[j] = Poly.exact(det[n - j], by, over.p);
            if (g[j] == null) {
                return null;
            }
        }
        return g;
    }
}
