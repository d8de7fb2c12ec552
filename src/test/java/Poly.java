import java.util.Arrays;

/** Plain polynomials in one unknown over p numbers, as trimmed arrays that nobody changes; for Model alone. */
final class Poly {
    static final int[] ZERO = {};
    static final int[] ONE = {1};

    private Poly() {
    }

    static int[] trim(int[] a, int p) {
        int size = a.length;
        int[] b = new int[size];
        for (int i = 0; i < size; i++) {
            b[i] = Math.floorMod(a[i], p);
        }
        while (size > 0 && b[size - 1] == 0) {
            size--;
        }
        return Arrays.copyOf(b, size);
    }

    static int at(int[] a, int i) {
        return i < 0 || i >= a.length ? 0 : a[i];
    }

    static int[] sum(int[] a, int[] b, int factor, int p) {
        int[] c = new int[Math.max(a.length, b.length)];
        for (int i = 0; i < c.length; i++) {
            c[i] = at(a, i) + factor * at(b, i);
        }
        return trim(c, p);
    }

    static int[] product(int[] a, int[] b, int p) {
        if (a.length == 0 || b.length == 0) {
            return ZERO;
        }
        int[] c = new int[a.length + b.length - 1];
        for (int i = 0; i < a.length; i++) {
            for (int j = 0; j < b.length; j++) {
                c[i + j] += a[i] * b[j];
            }
        }
        return trim(c, p);
    }

    static int[] power(int[] a, int k, int p) {
        int[] c = ONE;
        for (int i = 0; i < k; i++) {
            c = product(c, a, p);
        }
        return c;
    }

    /** x - c. */
    static int[] root(int c, int p) {
        return trim(new int[] {-c, 1}, p);
    }

    /** The quotient by the monic b, or null where something remains. */
    static int[] exact(int[] a, int[] b, int p) {
        int[] rest = a.clone();
        int[] quotient = new int[Math.max(0, a.length - b.length + 1)];
        for (int i = quotient.length - 1; i >= 0; i--) {
            int lead = Math.floorMod(rest[i + b.length - 1], p);
            quotient[i] = lead;
            for (int j = 0; j < b.length; j++) {
                rest[i + j] -= lead * b[j];
            }
        }
        return trim(rest, p).length == 0 ? trim(quotient, p) : null;
    }

    /** a with x + c for x. */
    static int[] moved(int[] a, int c, int p) {
        int[] sum = ZERO;
        int[] power = ONE;
        for (int v : a) {
            sum = sum(sum, power, v, p);
            power = product(power, trim(new int[] {c, 1}, p), p);
        }
        return sum;
    }
}
