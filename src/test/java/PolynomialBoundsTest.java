/** Promises 7 to 9: each sentence that names a limit, with a test of its own. */
public final class PolynomialBoundsTest {
    private static final int[] EDGES = {
        Due.LOWEST, Due.LOWEST + 1, -2, -1, 0, 1, 2, Due.HIGHEST - 1, Due.HIGHEST
    };

    public static void main(String[] args) {
        valueRefusesOtherPoints();
        valueAtTheFirstAndTheLastPoint();
        valueOfPolynomialsAtTheEdge();
        productOfPolynomialsAtTheEdge();
        productWithZeroAndOne();
        productIsTheProductOfValues();
        leadingOfZero();
        leadingOfTheLowestAndTheHighest();
        leadingOfPolynomialsAtTheEdge();
        leadingByTheKindThatIsSet();
        noIdealCounts();
        Due.end();
    }

    // Promise 7: "-1 if point is not in 0 .. 31"
    private static void valueRefusesOtherPoints() {
        int[] bad = {-1, -2, -31, -32, 32, 33, 63, 64, Due.LOWEST, Due.LOWEST + 31, Due.HIGHEST};
        for (int p : EDGES) {
            BooleanGroebner x = new BooleanGroebner();
            for (int point : bad) {
                Due.is("value(" + p + ", " + point + ")", x.value(p, point), -1);
            }
        }
    }

    private static void valueAtTheFirstAndTheLastPoint() {
        for (int m = 0; m < 32; m++) {
            BooleanGroebner x = new BooleanGroebner();
            Due.is("monomial " + m + " at 0", x.value(1 << m, 0), m == 0 ? 1 : 0);
            Due.is("monomial " + m + " at 31", x.value(1 << m, 31), 1);
            Due.is("monomial " + m + " at itself", x.value(1 << m, m), 1);
        }
    }

    private static void valueOfPolynomialsAtTheEdge() {
        BooleanGroebner x = new BooleanGroebner();
        Due.is("MIN at 30", x.value(Due.LOWEST, 30), 0);
        Due.is("MIN at 31", x.value(Due.LOWEST, 31), 1);
        Due.is("MAX at 0", x.value(Due.HIGHEST, 0), 1);
        Due.is("MAX at 30", x.value(Due.HIGHEST, 30), 0);
        Due.is("MAX at 31", x.value(Due.HIGHEST, 31), 1);
        Due.is("all at 0", x.value(-1, 0), 1);
        Due.is("all at 1", x.value(-1, 1), 0);
        Due.is("all at 31", x.value(-1, 31), 0);
        Due.is("all but 1 at 0", x.value(-2, 0), 0);
        Due.is("all but 1 at 31", x.value(-2, 31), 1);
        Due.is("0 at 0", x.value(0, 0), 0);
        Due.is("0 at 31", x.value(0, 31), 0);
    }

    // Promise 8: "The product of two polynomials", any two ints
    private static void productOfPolynomialsAtTheEdge() {
        BooleanGroebner x = new BooleanGroebner();
        Due.is("MIN by MIN", x.product(Due.LOWEST, Due.LOWEST), Due.LOWEST);
        Due.is("MAX by MAX", x.product(Due.HIGHEST, Due.HIGHEST), Due.HIGHEST);
        Due.is("MIN by MAX", x.product(Due.LOWEST, Due.HIGHEST), Due.LOWEST);
        Due.is("MAX by MIN", x.product(Due.HIGHEST, Due.LOWEST), Due.LOWEST);
        Due.is("MIN by all", x.product(Due.LOWEST, -1), 0);
        Due.is("MIN by all but 1", x.product(Due.LOWEST, -2), Due.LOWEST);
        Due.is("all by all", x.product(-1, -1), -1);
        Due.is("all by MAX", x.product(-1, Due.HIGHEST), -1);
        Due.is("all by all but 1", x.product(-1, -2), 0);
        Due.is("all by x4", x.product(-1, Due.poly(16)), 0);
        Due.is("single 30 by single 31", x.product(Picture.single(30), Picture.single(31)), 0);
    }

    private static void productWithZeroAndOne() {
        BooleanGroebner x = new BooleanGroebner();
        for (int p : EDGES) {
            Due.is("0 by " + p, x.product(0, p), 0);
            Due.is(p + " by 0", x.product(p, 0), 0);
            Due.is("1 by " + p, x.product(1, p), p);
            Due.is(p + " by 1", x.product(p, 1), p);
        }
    }

    private static void productIsTheProductOfValues() {
        for (int p : EDGES) {
            for (int q : EDGES) {
                BooleanGroebner x = new BooleanGroebner();
                int r = x.product(p, q);
                for (int point = 0; point < 32; point++) {
                    int want = x.value(p, point) * x.value(q, point);
                    Due.is(p + " by " + q + " at " + point, x.value(r, point), want);
                }
            }
        }
    }

    // Promise 9: "-1 for the polynomial 0"
    private static void leadingOfZero() {
        BooleanGroebner x = new BooleanGroebner();
        Due.is("kind 0: leading(0)", x.leading(0), -1);
        x.order(1);
        Due.is("kind 1: leading(0)", x.leading(0), -1);
        x.generate(0, 1);
        Due.is("no zeros: leading(0)", x.leading(0), -1);
    }

    // Promise 9: "The leading monomial of a polynomial", monomials 0 .. 31
    private static void leadingOfTheLowestAndTheHighest() {
        for (int kind = 0; kind < 2; kind++) {
            BooleanGroebner x = new BooleanGroebner();
            x.order(kind);
            for (int m = 0; m < 32; m++) {
                Due.is("of " + m + " alone", x.leading(1 << m), m);
                Due.is("of " + m + " and 0", x.leading(1 << m | 1), m);
                Due.is("of " + m + " and 31", x.leading(1 << m | Due.LOWEST), 31);
            }
        }
    }

    private static void leadingOfPolynomialsAtTheEdge() {
        for (int kind = 0; kind < 2; kind++) {
            BooleanGroebner x = new BooleanGroebner();
            x.order(kind);
            Due.is("of MIN", x.leading(Due.LOWEST), 31);
            Due.is("of MIN + 1", x.leading(Due.LOWEST + 1), 31);
            Due.is("of -1", x.leading(-1), 31);
            Due.is("of 1", x.leading(1), 0);
            Due.is("of 3", x.leading(3), 1);
            Due.is("of MAX", x.leading(Due.HIGHEST), 30);
        }
    }

    private static void leadingByTheKindThatIsSet() {
        BooleanGroebner x = new BooleanGroebner();
        Due.is("kind 0", x.leading(Due.poly(15, 16)), 15);
        x.order(1);
        Due.is("kind 1", x.leading(Due.poly(15, 16)), 16);
        x.order(2);
        Due.is("kind 1 after a refused order", x.leading(Due.poly(15, 16)), 16);
        x.order(0);
        Due.is("kind 0 again", x.leading(Due.poly(15, 16)), 15);
    }

    private static void noIdealCounts() {
        BooleanGroebner x = new BooleanGroebner();
        x.generate(0, 1);
        x.generate(1, Due.poly(3, 16));
        Due.is("value", x.value(Due.poly(3, 16), 3), 1);
        Due.is("product", x.product(Due.poly(3), Due.poly(16)), Due.poly(19));
        Due.is("leading", x.leading(Due.poly(3, 16)), 3);
    }
}
