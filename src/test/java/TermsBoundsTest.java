/** The section "Terms": each sentence that names a limit, with a test of its own. */
public final class TermsBoundsTest {
    private static final int[] BY_VARIABLES = {
        0,
        1, 2, 4, 8, 16,
        3, 5, 6, 9, 10, 12, 17, 18, 20, 24,
        7, 11, 13, 14, 19, 21, 22, 25, 26, 28,
        15, 23, 27, 29, 30,
        31
    };

    public static void main(String[] args) {
        monomialZeroIsOne();
        monomialThirtyOneIsTheSign();
        polynomialZero();
        valueIsModuloTwo();
        pointsGiveTheVariables();
        variablesCountOnceInAProduct();
        listIsEmptyAtFirst();
        listHoldsAtMostEight();
        zeroNeedsAllGenerators();
        inTheIdealNeedsAllZeros();
        kindZeroIsByVariablesThenNumber();
        kindOneIsByNumberAlone();
        kindIsZeroAtFirst();
        normalFormHasNoLedMonomials();
        leastHasNoLedPart();
        basisRisesInTheOrder();
        lastCallOfAnObject();
        Due.end();
    }

    // "0 is the monomial 1"
    private static void monomialZeroIsOne() {
        BooleanGroebner x = new BooleanGroebner();
        for (int point = 0; point < 32; point++) {
            Due.is("the monomial 1 at " + point, x.value(1, point), 1);
        }
        Due.is("leading of the monomial 1", x.leading(1), 0);
        Due.is("the monomial 1 times MIN", x.product(1, Due.LOWEST), Due.LOWEST);
    }

    // "the number whose bit m (0 .. 31) is 1 if monomial m is in it, as an int (so it may be negative)"
    private static void monomialThirtyOneIsTheSign() {
        for (int kind = 0; kind < 2; kind++) {
            BooleanGroebner x = new BooleanGroebner();
            x.order(kind);
            Due.is("generate MIN", x.generate(1, Due.LOWEST), 1);
            Due.is("zeros of MIN", x.zeros(1), 31);
            Due.is("its last zero", x.nextZero(1, 29), 30);
            Due.is("31 is no zero", x.nextZero(1, 30), -2);
            Due.is("contains MIN", x.contains(1, Due.LOWEST), 1);
            Due.is("contains MIN + 1", x.contains(1, Due.LOWEST | 1), 0);
            Due.is("basisSize", x.basisSize(1), 1);
            Due.is("basis", x.basis(1, 0), Due.LOWEST);
            Due.is("standard", x.standard(1), 31);
            Due.is("normal of all", x.normal(1, -1), Due.HIGHEST);
            Due.is("generate all", x.generate(0, -1), 1);
            Due.is("zeros of all", x.zeros(0), 31);
            Due.is("0 is no zero", x.nextZero(0, Due.LOWEST), 1);
            Due.is("normal of MIN", x.normal(0, Due.LOWEST), Due.HIGHEST);
            Due.is("basis of all", x.basis(0, 0), -1);
            Due.is("leading of MIN", x.leading(Due.LOWEST), 31);
            Due.is("value of MIN", x.value(Due.LOWEST, 31), 1);
            Due.is("product with MIN", x.product(Due.LOWEST, -2), Due.LOWEST);
        }
    }

    // "0 is the polynomial 0"
    private static void polynomialZero() {
        BooleanGroebner x = new BooleanGroebner();
        Due.is("value of 0", x.value(0, 0), 0);
        Due.is("value of 0", x.value(0, 31), 0);
        Due.is("leading of 0", x.leading(0), -1);
        Due.is("0 is in the least ideal", x.contains(0, 0), 1);
        Due.is("generate 0", x.generate(0, 0), 1);
        Due.is("0 takes no zero away", x.zeros(0), 32);
    }

    // "the number of its monomials that are 1 there, modulo 2"
    private static void valueIsModuloTwo() {
        for (int count = 0; count <= 32; count++) {
            BooleanGroebner x = new BooleanGroebner();
            int first = count == 32 ? -1 : (1 << count) - 1;
            Due.is(count + " monomials that are 1", x.value(first, 31), count % 2);
        }
    }

    // "at a point a variable xi has the value of bit i"
    private static void pointsGiveTheVariables() {
        for (int variable = 0; variable < 5; variable++) {
            BooleanGroebner x = new BooleanGroebner();
            for (int point = 0; point < 32; point++) {
                int want = point >>> variable & 1;
                int got = x.value(Due.poly(1 << variable), point);
                Due.is("x" + variable + " at " + point, got, want);
            }
        }
    }

    // "the PRODUCT is the polynomial whose value at every point is the product of their values"
    private static void variablesCountOnceInAProduct() {
        BooleanGroebner x = new BooleanGroebner();
        for (int m = 0; m < 32; m++) {
            Due.is("monomial " + m + " by itself", x.product(1 << m, 1 << m), 1 << m);
            Due.is("monomial " + m + " by 31", x.product(1 << m, Due.LOWEST), Due.LOWEST);
            Due.is("monomial " + m + " by the rest", x.product(1 << m, 1 << (31 - m)), Due.LOWEST);
        }
    }

    // "each given by a list of at most 8 GENERATORS, empty at first"
    private static void listIsEmptyAtFirst() {
        BooleanGroebner x = new BooleanGroebner();
        for (int k = 0; k < 2; k++) {
            Due.is("generators(" + k + ")", x.generators(k), 0);
            Due.is("retract(" + k + ", 0)", x.retract(k, 0), -2);
        }
    }

    private static void listHoldsAtMostEight() {
        for (int k = 0; k < 2; k++) {
            BooleanGroebner x = new BooleanGroebner();
            for (int i = 0; i < 8; i++) {
                Due.is("generate", x.generate(k, Picture.generator(k, i)), i + 1);
            }
            Due.is("the ninth", x.generate(k, 1), -2);
            Due.is("all eight count", x.zeros(k), 24);
            for (int i = 0; i < 8; i++) {
                Due.is("generator " + i + " is in", x.contains(k, Picture.generator(k, i)), 1);
            }
        }
    }

    // "a point at which all generators have the value 0"
    private static void zeroNeedsAllGenerators() {
        BooleanGroebner x = new BooleanGroebner();
        Due.is("no generators: every point", x.zeros(0), 32);
        for (int point = 0; point < 8; point++) {
            x.generate(0, Picture.single(point));
            Due.is("points 0 .. " + point + " are out", x.nextZero(0, -1), point + 1);
        }
        Due.is("the rest is in", x.zeros(0), 24);
    }

    // "IN THE IDEAL if it has the value 0 at all zeros"
    private static void inTheIdealNeedsAllZeros() {
        BooleanGroebner x = new BooleanGroebner();
        x.generate(0, Due.poly(1));
        Due.is("0 at all zeros", x.contains(0, Due.poly(1)), 1);
        Due.is("1 at just the first zero", x.contains(0, Picture.single(0)), 0);
        Due.is("1 at just the last zero", x.contains(0, Picture.single(30)), 0);
        Due.is("1 only where no zero is", x.contains(0, Picture.single(31)), 1);
        x.generate(1, 1);
        Due.is("no zeros: also 1", x.contains(1, 1), 1);
    }

    // "first by the number of variables (fewer comes lower), then by the number"
    private static void kindZeroIsByVariablesThenNumber() {
        BooleanGroebner x = new BooleanGroebner();
        int lower = 0;
        for (int rank = 0; rank < 32; rank++) {
            lower |= 1 << BY_VARIABLES[rank];
            Due.is("the highest of " + (rank + 1), x.leading(lower), BY_VARIABLES[rank]);
        }
        Due.is("two variables over one", x.leading(Due.poly(16, 3)), 3);
        Due.is("as many variables: by the number", x.leading(Due.poly(17, 12)), 17);
    }

    // "by kind 1: by the number alone"
    private static void kindOneIsByNumberAlone() {
        BooleanGroebner x = new BooleanGroebner();
        x.order(1);
        int lower = 0;
        for (int monomial = 0; monomial < 32; monomial++) {
            lower |= 1 << monomial;
            Due.is("the highest up to " + monomial, x.leading(lower), monomial);
        }
        Due.is("one variable over four", x.leading(Due.poly(15, 16)), 16);
    }

    // "The kind is 0 at first"
    private static void kindIsZeroAtFirst() {
        Due.is("order(1) on a new object", new BooleanGroebner().order(1), 0);
        Due.is("order(0) on a new object", new BooleanGroebner().order(0), 0);
        Due.is("leading on a new object", new BooleanGroebner().leading(Due.poly(15, 16)), 15);
    }

    // "the polynomial q without led monomials such that the sum of p and q is in the ideal"
    private static void normalFormHasNoLedMonomials() {
        for (int kind = 0; kind < 2; kind++) {
            BooleanGroebner x = Picture.filled(new int[] {8, 3}, kind);
            for (int k = 0; k < 2; k++) {
                int led = 0;
                for (int m = 0; m < 32; m++) {
                    int q = x.normal(k, 1 << m);
                    Due.is("the sum is in the ideal", x.contains(k, 1 << m ^ q), 1);
                    led |= q == 1 << m ? 0 : 1 << m;
                }
                Due.is("as many led as no zeros", Integer.bitCount(led), k == 0 ? 8 : 3);
                for (int m = 0; m < 32; m++) {
                    Due.is("no led monomial", x.normal(k, 1 << m) & led, 0);
                }
                Due.is("no led monomial in that of all", x.normal(k, -1) & led, 0);
            }
        }
    }

    // "LEAST if no led monomial has only some but not all of its variables and no others"
    private static void leastHasNoLedPart() {
        for (int kind = 0; kind < 2; kind++) {
            BooleanGroebner x = new BooleanGroebner();
            x.order(kind);
            x.generate(0, Due.poly(3));
            x.generate(0, Due.poly(7));
            x.generate(0, Due.poly(24));
            Due.is("x0 x1 x2 is not least", x.basisSize(0), 2);
            Due.is("x0 x1 is", x.basis(0, 0), Due.poly(3));
            Due.is("x3 x4 is", x.basis(0, 1), Due.poly(24));
            x.generate(0, Due.poly(1));
            Due.is("x0 x1 is not beside x0", x.basis(0, 0), Due.poly(1));
            Due.is("x3 x4 still is", x.basis(0, 1), Due.poly(24));
        }
    }

    // "one for each least led monomial m in rising order of m in the order of monomials"
    private static void basisRisesInTheOrder() {
        BooleanGroebner x = new BooleanGroebner();
        x.generate(0, Due.poly(16));
        x.generate(0, Due.poly(9));
        x.generate(0, Due.poly(7));
        int[] rising = {16, 9, 7};
        for (int i = 0; i < 3; i++) {
            Due.is("kind 0: basis(0, " + i + ")", x.basis(0, i), Due.poly(rising[i]));
        }
        x.order(1);
        for (int i = 0; i < 3; i++) {
            Due.is("kind 1: basis(0, " + i + ")", x.basis(0, i), Due.poly(rising[2 - i]));
        }
    }

    // "An object is used for at most 512 calls after it has been made"
    private static void lastCallOfAnObject() {
        BooleanGroebner x = new BooleanGroebner();
        for (int call = 1; call <= 510; call += 3) {
            Due.is("call " + call, x.generate(0, Due.poly(1)), 1);
            Due.is("call " + (call + 1), x.normal(0, Due.poly(1, 2)), Due.poly(2));
            Due.is("call " + (call + 2), x.retract(0, 0), 0);
        }
        Due.is("call 511", x.generate(0, Due.poly(2)), 1);
        Due.is("call 512", x.basis(0, 0), Due.poly(2));
    }
}
