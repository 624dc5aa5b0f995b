/** Promises 10 to 19 by hand-made cases, and from 20 the monomial 1 and the state that counts. */
public final class IdealsTest {
    public static void main(String[] args) {
        badIdeals();
        noGenerators();
        noZeros();
        oneZero();
        orderMatters();
        stateThatCounts();
        nextZero();
        within();
        commonZeros();
        fixed();
        questionsChangeNothing();
        Due.end();
    }

    private static void badIdeals() {
        BooleanGroebner x = new BooleanGroebner();
        x.generate(0, Due.poly(1));
        x.generate(1, Due.poly(2));
        for (int k : Due.BAD_IDEALS) {
            Due.is("contains(" + k + ", 0)", x.contains(k, 0), -1);
            Due.is("normal(" + k + ", 1)", x.normal(k, 1), 0);
            Due.is("basisSize(" + k + ")", x.basisSize(k), -1);
            Due.is("basis(" + k + ", 0)", x.basis(k, 0), 0);
            Due.is("standard(" + k + ")", x.standard(k), -1);
            Due.is("zeros(" + k + ")", x.zeros(k), -1);
            Due.is("nextZero(" + k + ", 40)", x.nextZero(k, 40), -1);
            Due.is("within(" + k + ")", x.within(k), -1);
            Due.is("fixed(" + k + ", 0, 0)", x.fixed(k, 0, 0), -1);
            Due.is("fixed(" + k + ", 5, 2)", x.fixed(k, 5, 2), -1);
        }
    }

    private static void noGenerators() {
        BooleanGroebner x = new BooleanGroebner();
        x.generate(1, 0);
        for (int k = 0; k < 2; k++) {
            Due.is("contains 0", x.contains(k, 0), 1);
            Due.is("contains 1", x.contains(k, 1), 0);
            Due.is("contains MIN", x.contains(k, Due.LOWEST), 0);
            Due.is("normal of all", x.normal(k, -1), -1);
            Due.is("normal of MIN", x.normal(k, Due.LOWEST), Due.LOWEST);
            Due.is("basisSize", x.basisSize(k), 0);
            Due.is("basis", x.basis(k, 0), 0);
            Due.is("standard", x.standard(k), 32);
            Due.is("zeros", x.zeros(k), 32);
        }
    }

    private static void noZeros() {
        BooleanGroebner x = new BooleanGroebner();
        x.generate(0, Due.poly(31));
        x.generate(0, Due.poly(31, 0));
        for (int kind = 0; kind < 2; kind++) {
            x.order(kind);
            Due.is("zeros", x.zeros(0), 0);
            Due.is("standard", x.standard(0), 0);
            Due.is("basisSize", x.basisSize(0), 1);
            Due.is("basis 0", x.basis(0, 0), 1);
            Due.is("basis 1", x.basis(0, 1), 0);
            Due.is("contains 1", x.contains(0, 1), 1);
            Due.is("contains all", x.contains(0, -1), 1);
            Due.is("normal", x.normal(0, -1), 0);
            Due.is("nextZero", x.nextZero(0, Due.LOWEST), -2);
        }
    }

    // x2 = 1, all others 0: five basis polynomials of one variable each, in rising order.
    private static void oneZero() {
        BooleanGroebner x = new BooleanGroebner();
        int[] due = {Due.poly(1), Due.poly(2), Due.poly(4, 0), Due.poly(8), Due.poly(16)};
        for (int i = 4; i >= 0; i--) {
            x.generate(0, due[i]);
        }
        for (int kind = 0; kind < 2; kind++) {
            x.order(kind);
            Due.is("zeros", x.zeros(0), 1);
            Due.is("standard", x.standard(0), 1);
            Due.is("basisSize", x.basisSize(0), 5);
            for (int i = 0; i < 5; i++) {
                Due.is("basis(0, " + i + ")", x.basis(0, i), due[i]);
            }
            int[] bad = {-1, -2, -32, 5, 6, 31, 32, Due.LOWEST, Due.HIGHEST};
            for (int i : bad) {
                Due.is("basis(0, " + i + ")", x.basis(0, i), 0);
            }
            Due.is("normal of x2", x.normal(0, Due.poly(4)), 1);
            Due.is("normal of x1 x2", x.normal(0, Due.poly(6)), 0);
        }
    }

    // x2 + x0 x1: by kind 0 the product leads, by kind 1 the single variable.
    private static void orderMatters() {
        BooleanGroebner x = new BooleanGroebner();
        x.generate(0, Due.poly(4, 3));
        Due.is("kind 0: normal of x2", x.normal(0, Due.poly(4)), Due.poly(4));
        Due.is("kind 0: normal of x0 x1", x.normal(0, Due.poly(3)), Due.poly(4));
        Due.is("kind 0: basisSize", x.basisSize(0), 3);
        Due.is("kind 0: basis 0", x.basis(0, 0), Due.poly(3, 4));
        Due.is("kind 0: basis 1", x.basis(0, 1), Due.poly(5, 4));
        Due.is("kind 0: basis 2", x.basis(0, 2), Due.poly(6, 4));
        x.order(1);
        Due.is("kind 1: normal of x2", x.normal(0, Due.poly(4)), Due.poly(3));
        Due.is("kind 1: normal of x0 x1", x.normal(0, Due.poly(3)), Due.poly(3));
        Due.is("kind 1: basisSize", x.basisSize(0), 1);
        Due.is("kind 1: basis 0", x.basis(0, 0), Due.poly(4, 3));
        Due.is("kind 1: basis 1", x.basis(0, 1), 0);
        x.order(0);
        Due.is("kind 0 again: basisSize", x.basisSize(0), 3);
        // x1 x2 (6) and x3 (8): the rising order of the basis is the kind's own.
        x.clear(0);
        x.generate(0, Due.poly(6));
        x.generate(0, Due.poly(8));
        Due.is("kind 0: first", x.basis(0, 0), Due.poly(8));
        Due.is("kind 0: second", x.basis(0, 1), Due.poly(6));
        x.order(1);
        Due.is("kind 1: first", x.basis(0, 0), Due.poly(6));
        Due.is("kind 1: second", x.basis(0, 1), Due.poly(8));
    }

    private static void stateThatCounts() {
        BooleanGroebner x = new BooleanGroebner();
        x.generate(0, Due.poly(1));
        x.generate(0, Due.poly(1));
        x.generate(0, 0);
        Due.is("zeros", x.zeros(0), 16);
        Due.is("generators counted twice", x.generators(0), 3);
        x.retract(0, 0);
        Due.is("the second x0 stays", x.zeros(0), 16);
        x.retract(0, 0);
        Due.is("only 0 is left", x.zeros(0), 32);
        Due.is("standard then", x.standard(0), 32);
        Due.is("normal then", x.normal(0, Due.poly(1)), Due.poly(1));
        x.generate(0, Due.poly(1, 0));
        Due.is("normal after x0 + 1", x.normal(0, Due.poly(1)), 1);
        Due.is("normal in the other", x.normal(1, Due.poly(1)), Due.poly(1));
        Due.is("normal in the first again", x.normal(0, Due.poly(1)), 1);
    }

    private static void nextZero() {
        BooleanGroebner x = new BooleanGroebner();
        Due.is("after MIN", x.nextZero(0, Due.LOWEST), 0);
        Due.is("after -1", x.nextZero(0, -1), 0);
        Due.is("after 0", x.nextZero(0, 0), 1);
        Due.is("after 30", x.nextZero(0, 30), 31);
        Due.is("after 31", x.nextZero(0, 31), -2);
        Due.is("after 32", x.nextZero(0, 32), -2);
        Due.is("after MAX", x.nextZero(0, Due.HIGHEST), -2);
        x.generate(1, Due.poly(16, 0));
        x.generate(1, Due.poly(1));
        Due.is("x4 = 1, x0 = 0: first", x.nextZero(1, -100), 16);
        Due.is("after 16", x.nextZero(1, 16), 18);
        Due.is("after 17", x.nextZero(1, 17), 18);
        Due.is("after 30", x.nextZero(1, 30), -2);
    }

    private static void within() {
        BooleanGroebner x = new BooleanGroebner();
        Due.is("both empty", x.within(0), 1);
        Due.is("both empty", x.within(1), 1);
        x.generate(0, Due.poly(1));
        Due.is("x0 in nothing", x.within(0), 0);
        Due.is("nothing in x0", x.within(1), 1);
        x.generate(1, Due.poly(2));
        Due.is("x0 in x1", x.within(0), 0);
        Due.is("x1 in x0", x.within(1), 0);
        x.generate(1, Due.poly(1));
        Due.is("x0 in x0, x1", x.within(0), 1);
        Due.is("x0, x1 in x0", x.within(1), 0);
        x.generate(0, Due.poly(1, 2));
        Due.is("the same ideal", x.within(0), 1);
        Due.is("the same ideal", x.within(1), 1);
        x.generate(0, 1);
        Due.is("all in x0, x1", x.within(0), 0);
        Due.is("x0, x1 in all", x.within(1), 1);
    }

    private static void commonZeros() {
        BooleanGroebner x = new BooleanGroebner();
        Due.is("both empty", x.commonZeros(), 32);
        x.generate(0, Due.poly(1));
        Due.is("x0", x.commonZeros(), 16);
        x.generate(1, Due.poly(2));
        Due.is("x0 and x1", x.commonZeros(), 8);
        x.generate(1, Due.poly(1, 0));
        Due.is("x0 = 0 and x0 = 1", x.commonZeros(), 0);
        Due.is("zeros stay", x.zeros(0), 16);
    }

    private static void fixed() {
        BooleanGroebner x = new BooleanGroebner();
        x.generate(0, Due.poly(4));
        x.generate(0, Due.poly(16, 0));
        x.generate(1, 1);
        for (int variable = 0; variable < 5; variable++) {
            Due.is("to 0: x" + variable, x.fixed(0, variable, 0), variable == 2 ? 1 : 0);
            Due.is("to 1: x" + variable, x.fixed(0, variable, 1), variable == 4 ? 1 : 0);
            Due.is("no zeros, to 0", x.fixed(1, variable, 0), 1);
            Due.is("no zeros, to 1", x.fixed(1, variable, 1), 1);
        }
        int[] badVariables = {-1, 5, 32, 34, Due.LOWEST, Due.HIGHEST};
        for (int variable : badVariables) {
            Due.is("fixed(0, " + variable + ", 0)", x.fixed(0, variable, 0), -2);
            Due.is("fixed(1, " + variable + ", 2)", x.fixed(1, variable, 2), -2);
        }
        int[] badValues = {-1, 2, 3, Due.LOWEST, Due.HIGHEST};
        for (int b : badValues) {
            Due.is("fixed(0, 4, " + b + ")", x.fixed(0, 4, b), -3);
            Due.is("fixed(1, 0, " + b + ")", x.fixed(1, 0, b), -3);
        }
    }

    private static void questionsChangeNothing() {
        BooleanGroebner x = new BooleanGroebner();
        x.generate(0, Due.poly(4, 3));
        x.generate(1, Due.poly(16, 1));
        int[] first = ask(x);
        for (int round = 0; round < 10; round++) {
            int[] again = ask(x);
            for (int i = 0; i < first.length; i++) {
                Due.is("question " + i + " again", again[i], first[i]);
            }
        }
    }

    private static int[] ask(BooleanGroebner x) {
        return new int[] {
            x.generators(0), x.generators(1), x.value(22, 7), x.product(22, 260), x.leading(-2),
            x.leading(Due.poly(3, 4)), x.contains(0, 24), x.contains(1, Due.poly(16, 1)),
            x.normal(0, -1), x.normal(1, -1), x.normal(0, 255), x.basisSize(0), x.basis(0, 0),
            x.basis(0, 2), x.basisSize(1), x.basis(1, 0), x.standard(0), x.standard(1),
            x.zeros(0), x.zeros(1), x.nextZero(0, 3), x.nextZero(1, 3), x.within(0), x.within(1),
            x.commonZeros(), x.fixed(0, 1, 1), x.fixed(1, 4, 0),
        };
    }
}
