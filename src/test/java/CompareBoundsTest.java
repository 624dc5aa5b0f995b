/** Promises 17 to 19, and 20 on the state and the monomial 1: each limit with a test of its own. */
public final class CompareBoundsTest {
    private static final int[] BAD_VARIABLES = {
        -1, -2, 5, 6, 31, 32, 33, 36, Due.LOWEST, Due.HIGHEST
    };
    private static final int[] BAD_VALUES = {-1, -2, 2, 3, Due.LOWEST, Due.LOWEST + 1, Due.HIGHEST};

    public static void main(String[] args) {
        withinRefusesBadIdeals();
        withinOfTheLeastAndTheGreatest();
        withinNeedsEveryPolynomial();
        withinOfTheSameIdeal();
        commonZerosFromNoneToAll();
        fixedRefusesBadIdeals();
        fixedRefusesOtherVariables();
        fixedRefusesOtherValues();
        fixedWithoutZeros();
        fixedWithoutGenerators();
        fixedNeedsAllZeros();
        answersAreOfTheGeneratorsThere();
        answersAreByTheKindSet();
        theMonomialOneIsPartOfEachOther();
        theMonomialOneLedByManyGenerators();
        oneZeroIsNotNone();
        Due.end();
    }

    // Promise 17: "-1 if k is not good"
    private static void withinRefusesBadIdeals() {
        BooleanGroebner x = new BooleanGroebner();
        x.generate(1, Due.poly(1));
        for (int k : Due.BAD_IDEALS) {
            Due.is("within(" + k + ")", x.within(k), -1);
        }
        Due.is("within(0)", x.within(0), 1);
        Due.is("within(1)", x.within(1), 0);
    }

    // Promise 17: "1 if every polynomial in ideal k is in the other one, otherwise 0"
    private static void withinOfTheLeastAndTheGreatest() {
        for (int k = 0; k < 2; k++) {
            BooleanGroebner x = new BooleanGroebner();
            Due.is("the least in the least", x.within(k), 1);
            x.generate(k, 1);
            Due.is("the greatest in the least", x.within(k), 0);
            Due.is("the least in the greatest", x.within(1 - k), 1);
            x.generate(1 - k, Due.poly(16));
            Due.is("the greatest in another", x.within(k), 0);
            Due.is("another in the greatest", x.within(1 - k), 1);
            x.generate(1 - k, Due.poly(16, 0));
            Due.is("the greatest in the greatest", x.within(k), 1);
        }
    }

    private static void withinNeedsEveryPolynomial() {
        for (int point = 0; point < 32; point++) {
            BooleanGroebner x = new BooleanGroebner();
            x.generate(0, Picture.single(point));
            Due.is("one point fewer", x.within(0), 0);
            Due.is("one point more", x.within(1), 1);
            x.generate(1, Picture.single(31 - point));
            Due.is("another point", x.within(0), 0);
            Due.is("another point", x.within(1), 0);
        }
    }

    // The lists may differ though the ideals do not.
    private static void withinOfTheSameIdeal() {
        BooleanGroebner x = new BooleanGroebner();
        x.generate(0, Due.poly(1));
        x.generate(0, Due.poly(2));
        x.generate(1, Due.poly(1, 2, 3));
        x.generate(1, 0);
        x.generate(1, Due.poly(3));
        Due.is("within(0)", x.within(0), 1);
        Due.is("within(1)", x.within(1), 1);
        x.retract(0, 1);
        Due.is("x0 alone in both", x.within(0), 1);
        Due.is("both in x0 alone", x.within(1), 0);
    }

    // Promise 18: "How many zeros both ideals have"
    private static void commonZerosFromNoneToAll() {
        Due.is("no generators", new BooleanGroebner().commonZeros(), 32);
        for (int k = 0; k < 2; k++) {
            BooleanGroebner x = new BooleanGroebner();
            x.generate(k, Due.LOWEST);
            Due.is("all but 31", x.commonZeros(), 31);
            x.generate(1 - k, -1);
            Due.is("all but 0 and 31", x.commonZeros(), 30);
            x.clear(k);
            x.clear(1 - k);
            x.generate(k, Due.LOWEST ^ 1);
            Due.is("only 31", x.commonZeros(), 1);
            x.generate(1 - k, Due.LOWEST ^ 1);
            Due.is("only 31 in both", x.commonZeros(), 1);
            x.generate(1 - k, Due.LOWEST);
            Due.is("no zeros in one", x.commonZeros(), 0);
            x.clear(1 - k);
            x.generate(1 - k, Due.LOWEST);
            Due.is("zeros in each, none in both", x.commonZeros(), 0);
            Due.is("those of one", x.zeros(k), 1);
            Due.is("those of the other", x.zeros(1 - k), 31);
        }
    }

    // Promise 19: "-1 if k is not good"
    private static void fixedRefusesBadIdeals() {
        BooleanGroebner x = new BooleanGroebner();
        for (int k : Due.BAD_IDEALS) {
            Due.is("fixed(" + k + ", 0, 0)", x.fixed(k, 0, 0), -1);
            Due.is("fixed(" + k + ", 4, 1)", x.fixed(k, 4, 1), -1);
        }
        Due.is("fixed(0, 0, 0)", x.fixed(0, 0, 0), 0);
        Due.is("fixed(1, 0, 0)", x.fixed(1, 0, 0), 0);
    }

    // Promise 19: "-2 if variable is not in 0 .. 4"
    private static void fixedRefusesOtherVariables() {
        BooleanGroebner x = new BooleanGroebner();
        x.generate(1, 1);
        for (int variable : BAD_VARIABLES) {
            for (int b = 0; b < 2; b++) {
                Due.is("fixed(0, " + variable + ", " + b + ")", x.fixed(0, variable, b), -2);
                Due.is("fixed(1, " + variable + ", " + b + ")", x.fixed(1, variable, b), -2);
            }
        }
        for (int variable = 0; variable < 5; variable++) {
            Due.is("fixed(0, " + variable + ", 0)", x.fixed(0, variable, 0), 0);
            Due.is("fixed(1, " + variable + ", 0)", x.fixed(1, variable, 0), 1);
        }
    }

    // Promise 19: "-3 if b is not 0 or 1"
    private static void fixedRefusesOtherValues() {
        BooleanGroebner x = new BooleanGroebner();
        x.generate(1, 1);
        for (int b : BAD_VALUES) {
            for (int variable = 0; variable < 5; variable++) {
                Due.is("fixed(0, " + variable + ", " + b + ")", x.fixed(0, variable, b), -3);
                Due.is("fixed(1, " + variable + ", " + b + ")", x.fixed(1, variable, b), -3);
            }
        }
    }

    // Promise 19: "(so also if there are none)"
    private static void fixedWithoutZeros() {
        BooleanGroebner x = new BooleanGroebner();
        x.generate(0, Due.poly(1));
        x.generate(0, Due.poly(1, 0));
        for (int variable = 0; variable < 5; variable++) {
            Due.is("to 0: x" + variable, x.fixed(0, variable, 0), 1);
            Due.is("to 1: x" + variable, x.fixed(0, variable, 1), 1);
        }
    }

    private static void fixedWithoutGenerators() {
        BooleanGroebner x = new BooleanGroebner();
        for (int variable = 0; variable < 5; variable++) {
            Due.is("to 0: x" + variable, x.fixed(1, variable, 0), 0);
            Due.is("to 1: x" + variable, x.fixed(1, variable, 1), 0);
        }
    }

    // Promise 19: "the variable has the value b at all zeros": one other zero is enough
    private static void fixedNeedsAllZeros() {
        for (int variable = 0; variable < 5; variable++) {
            BooleanGroebner x = new BooleanGroebner();
            int bit = 1 << variable;
            x.generate(0, Due.poly(bit));
            Due.is("x" + variable + " = 0", x.fixed(0, variable, 0), 1);
            Due.is("not 1", x.fixed(0, variable, 1), 0);
            x.generate(1, Due.poly(bit, 0));
            Due.is("x" + variable + " = 1", x.fixed(1, variable, 1), 1);
            Due.is("not 0", x.fixed(1, variable, 0), 0);
            for (int other = 0; other < 5; other++) {
                Due.is("others are free", x.fixed(0, other, 0), other == variable ? 1 : 0);
                Due.is("others are free", x.fixed(1, other, 1), other == variable ? 1 : 0);
            }
            x.clear(0);
            x.generate(0, x.product(Due.poly(bit), Picture.single(31) ^ 1));
            Due.is("31 is a zero too", x.fixed(0, variable, 0), 0);
            x.clear(1);
            x.generate(1, x.product(Due.poly(bit, 0), Picture.single(0) ^ 1));
            Due.is("0 is a zero too", x.fixed(1, variable, 1), 0);
        }
    }

    // Promise 20: "those of the generators that are there then"
    private static void answersAreOfTheGeneratorsThere() {
        BooleanGroebner x = new BooleanGroebner();
        for (int k = 0; k < 2; k++) {
            x.generate(k, Due.poly(1));
            x.generate(k, Due.poly(2, 0));
            ideal("both", x, k, 8, Due.poly(1), 1);
            x.retract(k, 0);
            ideal("x1 + 1", x, k, 16, Due.poly(2, 0), 1);
            x.generate(k, Due.poly(1, 0));
            ideal("both by one", x, k, 8, Due.poly(1, 0), 1);
            x.generate(9, 1);
            x.retract(k, 2);
            ideal("after refused calls", x, k, 8, Due.poly(1, 0), 1);
            x.clear(k);
            ideal("none", x, k, 32, 0, Due.poly(2));
            x.generate(k, Due.poly(1));
            ideal("x0", x, k, 16, Due.poly(1), Due.poly(2));
        }
    }

    private static void ideal(String at, BooleanGroebner x, int k, int zeros, int first, int ofX1) {
        Due.is(at + ": zeros", x.zeros(k), zeros);
        Due.is(at + ": standard", x.standard(k), zeros);
        Due.is(at + ": first of the basis", x.basis(k, 0), first);
        Due.is(at + ": normal of x1", x.normal(k, Due.poly(2)), ofX1);
        Due.is(at + ": contains the first", x.contains(k, first), 1);
    }

    // Promise 20: "by the kind of order that is set then"
    private static void answersAreByTheKindSet() {
        for (int before = 0; before < 2; before++) {
            BooleanGroebner x = new BooleanGroebner();
            x.order(before);
            x.generate(0, Due.poly(15, 16));
            x.generate(1, Due.poly(3, 4));
            for (int round = 0; round < 2; round++) {
                x.order(1);
                Due.is("kind 1: leading", x.leading(Due.poly(15, 16)), 16);
                Due.is("kind 1: normal", x.normal(0, Due.poly(16)), Due.poly(15));
                Due.is("kind 1: basisSize", x.basisSize(0), 1);
                Due.is("kind 1: basis", x.basis(1, 0), Due.poly(4, 3));
                x.order(0);
                Due.is("kind 0: leading", x.leading(Due.poly(15, 16)), 15);
                Due.is("kind 0: normal", x.normal(0, Due.poly(15)), Due.poly(16));
                Due.is("kind 0: basisSize", x.basisSize(0), 5);
                Due.is("kind 0: basisSize of the other", x.basisSize(1), 3);
                Due.is("kind 0: basis", x.basis(1, 1), Due.poly(5, 4));
                Due.is("kind 0: refused", x.order(-1), -1);
                Due.is("kind 0: normal after it", x.normal(0, Due.poly(15)), Due.poly(16));
            }
            Due.is("zeros by either kind", x.zeros(0), 16);
        }
    }

    // Promise 20: "if it is led (there are no zeros), the basis is the polynomial 1 alone"
    private static void theMonomialOneIsPartOfEachOther() {
        for (int kind = 0; kind < 2; kind++) {
            for (int k = 0; k < 2; k++) {
                BooleanGroebner x = new BooleanGroebner();
                x.order(kind);
                x.generate(k, 1);
                Due.is("basisSize", x.basisSize(k), 1);
                Due.is("basis 0", x.basis(k, 0), 1);
                for (int i = 1; i < 33; i++) {
                    Due.is("basis " + i, x.basis(k, i), 0);
                }
                Due.is("standard", x.standard(k), 0);
                Due.is("the other has none", x.basisSize(1 - k), 0);
            }
        }
    }

    private static void theMonomialOneLedByManyGenerators() {
        for (int kind = 0; kind < 2; kind++) {
            BooleanGroebner x = new BooleanGroebner();
            x.order(kind);
            x.generate(0, Due.poly(1));
            x.generate(0, Due.poly(2));
            x.generate(0, Due.poly(4));
            x.generate(0, Due.poly(8));
            x.generate(0, Due.poly(16));
            Due.is("one zero: basisSize", x.basisSize(0), 5);
            x.generate(0, Picture.single(0));
            Due.is("no zeros: basisSize", x.basisSize(0), 1);
            Due.is("no zeros: basis 0", x.basis(0, 0), 1);
            Due.is("no zeros: basis 1", x.basis(0, 1), 0);
            Due.is("retract", x.retract(0, 5), 5);
            Due.is("one zero again: basisSize", x.basisSize(0), 5);
            Due.is("one zero again: basis 0", x.basis(0, 0), Due.poly(1));
        }
    }

    // With a single zero the monomial 1 is the only one that is not led.
    private static void oneZeroIsNotNone() {
        for (int point = 0; point < 32; point++) {
            BooleanGroebner x = new BooleanGroebner();
            x.order(point % 2);
            x.generate(0, Picture.single(point) ^ 1);
            Due.is("standard", x.standard(0), 1);
            Due.is("basisSize", x.basisSize(0), 5);
            for (int i = 0; i < 5; i++) {
                int want = Due.poly(1 << i) | (point >>> i & 1);
                Due.is("basis " + i + " at " + point, x.basis(0, i), want);
            }
            Due.is("normal of 1", x.normal(0, 1), 1);
        }
    }
}
