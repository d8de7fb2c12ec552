import java.util.ArrayList;
import java.util.Arrays;
import java.util.List;

/** The rings over one number by the document's own words: classes are gone through one by one; for Model alone. */
final class Rings {
    static final int DEEP = 24;

    /** A space of vectors over p numbers, in its one reduced form; the first places lead. */
    static final class Space {
        final int p;
        final List<int[]> rows = new ArrayList<>();
        final List<Integer> leads = new ArrayList<>();

        Space(int p) {
            this.p = p;
        }

        int[] rest(int[] v) {
            int[] w = v.clone();
            for (int r = 0; r < rows.size(); r++) {
                int times = w[leads.get(r)];
                for (int i = 0; times != 0 && i < w.length; i++) {
                    w[i] = Math.floorMod(w[i] - times * rows.get(r)[i], p);
                }
            }
            return w;
        }

        boolean has(int[] v) {
            for (int e : rest(v)) {
                if (e != 0) {
                    return false;
                }
            }
            return true;
        }

        boolean add(int[] v) {
            int[] w = rest(v);
            int lead = 0;
            while (lead < w.length && w[lead] == 0) {
                lead++;
            }
            if (lead == w.length) {
                return false;
            }
            int by = 1;
            while (by * w[lead] % p != 1) {
                by++;
            }
            for (int i = 0; i < w.length; i++) {
                w[i] = w[i] * by % p;
            }
            for (int[] row : rows) {
                int times = row[lead];
                for (int i = 0; times != 0 && i < row.length; i++) {
                    row[i] = Math.floorMod(row[i] - times * w[i], p);
                }
            }
            rows.add(w);
            leads.add(lead);
            return true;
        }
    }

    /** One ring: what makes it, and it by RING 0. */
    final class Ring {
        final List<Fraction> makers = new ArrayList<>();
        final Space space = new Space(p);
        /** One for each of n classes that make all classes. */
        final List<Fraction> classes = new ArrayList<>();
        int nil;
        int points;
        private final List<Fraction> radical = new ArrayList<>();

        void add(Fraction z) {
            boolean more = false;
            int[] t = Poly.ONE;
            for (int e = 0; e <= DEEP; e++) {
                more |= space.add(vector(z.timesLine(t), 1));
                t = Poly.product(t, Poly.root(0, p), p);
            }
            if (more || z.m == 0) {
                makers.add(z);
            }
        }

        boolean has(Fraction z) {
            return z.m <= DEEP && space.has(vector(z, 1));
        }

        boolean hasByT(Fraction z) {
            return has(z.by(0, 1));
        }

        boolean isRadical(Fraction z) {
            return has(z) && hasByT(z.power(over.n));
        }

        void workOut() {
            Space below = new Space(p);
            for (Fraction z : makers) {
                int[] t = Poly.root(0, p);
                for (int e = 1; e <= DEEP + 1; e++) {
                    below.add(vector(z.timesLine(t), 0));
                    t = Poly.product(t, Poly.root(0, p), p);
                }
            }
            for (Fraction z : makers) {
                if (below.add(vector(z, 0))) {
                    classes.add(z);
                }
            }
            if (classes.size() != over.n) {
                throw new IllegalStateException("classes " + classes.size());
            }
            int all = power(p, over.n);
            int nilCount = 0;
            int pointCount = 0;
            Space own = new Space(p);
            for (int number = 0; number < all; number++) {
                Fraction z = ofNumber(number);
                if (hasByT(z.power(over.n))) {
                    nilCount++;
                    if (own.add(digits(number))) {
                        radical.add(z);
                    }
                }
                if (hasByT(z.power(p).plus(z, -1))) {
                    pointCount++;
                }
            }
            nil = log(nilCount);
            points = log(pointCount);
            for (Fraction z : classes) {
                radical.add(z.timesLine(Poly.root(0, p)));
            }
        }

        int[] digits(int number) {
            int[] d = new int[over.n];
            for (int i = 0; i < over.n; i++) {
                d[i] = number % p;
                number /= p;
            }
            return d;
        }

        Fraction ofNumber(int number) {
            int[] d = digits(number);
            Fraction z = new Fraction(over, new int[0][], 0, -1);
            for (int i = 0; i < over.n; i++) {
                z = z.plus(classes.get(i), d[i]);
            }
            return z;
        }

        Ring next() {
            Ring ring = new Ring();
            for (Fraction z : makers) {
                ring.add(z);
            }
            for (int number = 0; number < power(p, over.n); number++) {
                Fraction z = ofNumber(number).by(0, 1);
                if (!ring.has(z) && multipliesRadical(z)) {
                    ring.add(z);
                }
            }
            return ring;
        }

        private boolean multipliesRadical(Fraction z) {
            for (Fraction r : radical) {
                if (!isRadical(z.times(r))) {
                    return false;
                }
            }
            return true;
        }

        int lost() {
            return space.rows.size();
        }

        int depth(int j) {
            int depth = 0;
            for (int lead : space.leads) {
                if (lead / DEEP == over.n - 1 - j) {
                    depth = Math.max(depth, DEEP - lead % DEEP);
                }
            }
            return depth;
        }

        /** b_j by y^i: the numbers by t^0, t^1, .. */
        int[][] basis(int j) {
            int[][] b = new int[over.n][DEEP + 1];
            int depth = depth(j);
            if (depth == 0) {
                b[j][0] = 1;
                return b;
            }
            int lead = (over.n - 1 - j) * DEEP + DEEP - depth;
            int[] row = space.rows.get(space.leads.indexOf(lead));
            for (int i = 0; i < over.n; i++) {
                for (int m = 1; m <= DEEP; m++) {
                    b[i][m] = row[(over.n - 1 - i) * DEEP + DEEP - m];
                }
            }
            return b;
        }

        Fraction basisFraction(int j) {
            int[][] b = basis(j);
            int[][] a = new int[over.n][DEEP + 1];
            for (int i = 0; i < over.n; i++) {
                for (int m = 0; m <= DEEP; m++) {
                    a[i][DEEP - m] = b[i][m];
                }
            }
            return new Fraction(over, a, DEEP, 0);
        }

        /** b_i b_j as polynomials in t times b_l. */
        int[][] table(int i, int j) {
            int[][] g = new int[over.n][];
            Fraction z = basisFraction(i).times(basisFraction(j));
            for (int l = over.n - 1; l >= 0; l--) {
                int[] t = Poly.power(Poly.root(0, p), depth(l), p);
                g[l] = Poly.exact(Poly.product(z.a[l], t, p), Poly.power(Poly.root(0, p), z.m, p), p);
                if (g[l] == null) {
                    throw new IllegalStateException("not in the ring");
                }
                z = z.plus(basisFraction(l).timesLine(g[l]), -1);
            }
            return g;
        }
    }

    final Fraction.Over over;
    final int p;
    final List<Ring> rings = new ArrayList<>();

    Rings(Fraction.Over there) {
        over = there;
        p = there.p;
        Ring ring = new Ring();
        for (int j = 0; j < over.n; j++) {
            ring.add(Fraction.ofPower(over, j));
        }
        ring.workOut();
        rings.add(ring);
        for (Ring next = ring.next(); next.lost() > ring.lost(); next = ring.next()) {
            next.workOut();
            rings.add(next);
            ring = next;
        }
    }

    Ring top() {
        return rings.get(rings.size() - 1);
    }

    /** Numbers of z by t^DEEP .. t^least for y^(n - 1), then .., y^0. */
    private int[] vector(Fraction z, int least) {
        int wide = DEEP - least + 1;
        int[] v = new int[over.n * wide];
        for (int j = 0; j < over.n; j++) {
            for (int m = least; m <= DEEP; m++) {
                v[(over.n - 1 - j) * wide + DEEP - m] = Poly.at(z.a[j], z.m - m);
            }
        }
        return v;
    }

    int branches(int d) {
        Ring ring = top();
        Fraction y = new Fraction(over, new int[][] {{-d}, {1}}, 0, -1).power(over.n);
        int count = 0;
        for (int number = 0; number < power(p, over.n); number++) {
            Fraction z = ring.ofNumber(number);
            if (ring.hasByT(y.times(z)) && ring.hasByT(z.power(p).plus(z, -1))) {
                count++;
            }
        }
        return log(count);
    }

    int conductor() {
        int k = 0;
        for (Fraction z : top().makers) {
            k = Math.max(k, z.m);
        }
        return k;
    }

    int codimension() {
        Space images = new Space(p);
        for (int j = 0; j < over.n; j++) {
            for (int e = 0; e < conductor(); e++) {
                Fraction z = Fraction.ofPower(over, j).timesLine(Poly.power(Poly.root(0, p), e, p));
                int[] all = new int[0];
                for (Fraction maker : top().makers) {
                    int[] more = vector(z.times(maker), 1);
                    all = Arrays.copyOf(all, all.length + more.length);
                    System.arraycopy(more, 0, all, all.length - more.length, more.length);
                }
                images.add(all);
            }
        }
        return images.rows.size();
    }

    static int power(int p, int k) {
        int v = 1;
        for (int i = 0; i < k; i++) {
            v *= p;
        }
        return v;
    }

    private int log(int count) {
        int k = 0;
        while (power(p, k) < count) {
            k++;
        }
        if (power(p, k) != count) {
            throw new IllegalStateException("no power of p: " + count);
        }
        return k;
    }
}
