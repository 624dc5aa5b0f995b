/** Promises 7 to 9: questions about polynomials alone. */
public final class PolynomialsTest {
    public static void main(String[] args) {
        values();
        products();
        leadingOfPairs();
        leadingEdges();
        Due.end();
    }

    private static void values() {
        BooleanGroebner x = new BooleanGroebner();
        int[] bad = {-1, 32, 33, 64, Due.LOWEST, Due.HIGHEST};
        for (int point : bad) {
            Due.is("value(0, " + point + ")", x.value(0, point), -1);
            Due.is("value(-1, " + point + ")", x.value(-1, point), -1);
        }
        for (int point = 0; point < 32; point++) {
            Due.is("value(0, " + point + ")", x.value(0, point), 0);
            Due.is("value(1, " + point + ")", x.value(1, point), 1);
            Due.is("value(-1, " + point + ")", x.value(-1, point), point == 0 ? 1 : 0);
            int top = x.value(Due.LOWEST, point);
            Due.is("value(MIN, " + point + ")", top, point == 31 ? 1 : 0);
        }
        for (int monomial = 0; monomial < 32; monomial++) {
            BooleanGroebner y = new BooleanGroebner();
            for (int point = 0; point < 32; point++) {
                int want = (monomial & ~point) == 0 ? 1 : 0;
                Due.is("monomial " + monomial + " at " + point, y.value(1 << monomial, point), want);
            }
        }
        Due.is("two monomials that are 1", x.value(Due.poly(1, 2), 3), 0);
        Due.is("three monomials that are 1", x.value(Due.poly(1, 2, 3), 3), 1);
    }

    private static void products() {
        BooleanGroebner x = new BooleanGroebner();
        int[] some = {0, 1, 2, 3, 6, 22, 260, 65812, 12345678, -1, -2, Due.LOWEST, Due.HIGHEST};
        for (int p : some) {
            Due.is("0 times " + p, x.product(0, p), 0);
            Due.is("1 times " + p, x.product(1, p), p);
            Due.is(p + " times itself", x.product(p, p), p);
            Due.is(p + " times its opposite", x.product(p, p ^ 1), 0);
            for (int q : some) {
                int want = longProduct(p, q);
                BooleanGroebner y = new BooleanGroebner();
                Due.is("product(" + p + ", " + q + ")", y.product(p, q), want);
            }
        }
        Due.is("x0 times x4", x.product(Due.poly(1), Due.poly(16)), Due.poly(17));
        Due.is("x0 x1 times x1 x2", x.product(Due.poly(3), Due.poly(6)), Due.poly(7));
    }

    private static int longProduct(int p, int q) {
        int sum = 0;
        for (int m = 0; m < 32; m++) {
            for (int n = 0; n < 32; n++) {
                if ((p >>> m & 1) == 1 && (q >>> n & 1) == 1) {
                    sum ^= 1 << (m | n);
                }
            }
        }
        return sum;
    }

    private static void leadingOfPairs() {
        for (int m = 0; m < 32; m++) {
            BooleanGroebner x = new BooleanGroebner();
            for (int n = 0; n < 32; n++) {
                int p = (1 << m) | (1 << n);
                int byVariables = Integer.bitCount(m) - Integer.bitCount(n);
                int want = byVariables > 0 || byVariables == 0 && m > n ? m : n;
                Due.is("kind 0: leading of " + m + " and " + n, x.leading(p), want);
                x.order(1);
                Due.is("kind 1: leading of " + m + " and " + n, x.leading(p), Math.max(m, n));
                x.order(0);
            }
        }
    }

    private static void leadingEdges() {
        BooleanGroebner x = new BooleanGroebner();
        for (int kind = 0; kind < 2; kind++) {
            x.order(kind);
            Due.is("leading(0)", x.leading(0), -1);
            Due.is("leading(1)", x.leading(1), 0);
            Due.is("leading(-1)", x.leading(-1), 31);
            Due.is("leading(MIN)", x.leading(Due.LOWEST), 31);
            Due.is("leading(MAX)", x.leading(Due.HIGHEST), 30);
        }
        int p = Due.poly(0, 7, 16, 24);
        Due.is("kind 1: leading", x.leading(p), 24);
        x.order(0);
        Due.is("kind 0: leading", x.leading(p), 7);
    }
}
