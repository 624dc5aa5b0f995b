/** Promises 10 to 16: each sentence that names a limit, with its own test. */
public final class IdealBoundsTest {
    private static final int[] EDGES = {
        Due.LOWEST, Due.LOWEST + 1, -2, -1, 0, 1, 2, Due.HIGHEST - 1, Due.HIGHEST
    };
    private static final int[] TWO_VARIABLES = {3, 5, 6, 9, 10, 12, 17, 18, 20, 24};

    public static void main(String[] args) {
        containsRefusesBadIdeals();
        containsWithoutGenerators();
        containsWithoutZeros();
        containsByOneZero();
        normalIsZeroForBadIdeals();
        normalWithoutGenerators();
        normalWithoutZeros();
        normalOfZero();
        basisSizeRefusesBadIdeals();
        basisSizeFromNoneToTen();
        basisIsZeroForBadIdeals();
        basisIsZeroOutside();
        basisOfEachIdealHasItsOwnEnd();
        standardRefusesBadIdeals();
        standardFromNoneToAll();
        zerosRefusesBadIdeals();
        zerosFromNoneToAll();
        nextZeroRefusesBadIdeals();
        nextZeroAfterAnyInt();
        nextZeroIsGreaterThanAfter();
        nextZeroOfEachSingleZero();
        nextZeroWithoutZeros();
        Due.end();
    }

    // Promise 10: "-1 if k is not good"
    private static void containsRefusesBadIdeals() {
        BooleanGroebner x = Picture.filled(new int[] {8, 8}, 0);
        for (int k : Due.BAD_IDEALS) {
            Due.is("contains(" + k + ", 0)", x.contains(k, 0), -1);
            Due.is("contains(" + k + ", 1)", x.contains(k, 1), -1);
        }
        Due.is("contains(0, 0)", x.contains(0, 0), 1);
        Due.is("contains(1, 0)", x.contains(1, 0), 1);
        Due.is("contains(0, 1)", x.contains(0, 1), 0);
        Due.is("contains(1, 1)", x.contains(1, 1), 0);
    }

    // Promise 10: "1 if the polynomial is in the ideal, otherwise 0", the least ideal
    private static void containsWithoutGenerators() {
        BooleanGroebner x = new BooleanGroebner();
        for (int p : EDGES) {
            Due.is("contains(0, " + p + ")", x.contains(0, p), p == 0 ? 1 : 0);
            Due.is("contains(1, " + p + ")", x.contains(1, p), p == 0 ? 1 : 0);
        }
    }

    // the greatest ideal
    private static void containsWithoutZeros() {
        BooleanGroebner x = new BooleanGroebner();
        x.generate(0, 1);
        for (int p : EDGES) {
            Due.is("contains(0, " + p + ")", x.contains(0, p), 1);
            Due.is("contains(1, " + p + ")", x.contains(1, p), p == 0 ? 1 : 0);
        }
    }

    private static void containsByOneZero() {
        for (int point = 0; point < 32; point++) {
            BooleanGroebner x = new BooleanGroebner();
            x.generate(0, Picture.single(point) ^ 1);
            x.generate(1, Picture.single(point));
            Due.is("1 at the only zero", x.contains(0, Picture.single(point)), 0);
            Due.is("0 at the only zero", x.contains(0, Picture.single(point) ^ 1), 1);
            Due.is("0 at all zeros", x.contains(1, Picture.single(point)), 1);
            Due.is("1 at all zeros", x.contains(1, Picture.single(point) ^ 1), 0);
        }
    }

    // Promise 11: "0 if k is not good"
    private static void normalIsZeroForBadIdeals() {
        BooleanGroebner x = new BooleanGroebner();
        for (int k : Due.BAD_IDEALS) {
            Due.is("normal(" + k + ", 1)", x.normal(k, 1), 0);
            Due.is("normal(" + k + ", MIN)", x.normal(k, Due.LOWEST), 0);
        }
        Due.is("normal(0, 1)", x.normal(0, 1), 1);
        Due.is("normal(1, 1)", x.normal(1, 1), 1);
    }

    // Promise 11: "The normal form of a polynomial", where no monomial is led
    private static void normalWithoutGenerators() {
        for (int kind = 0; kind < 2; kind++) {
            BooleanGroebner x = new BooleanGroebner();
            x.order(kind);
            x.generate(1, 0);
            for (int p : EDGES) {
                Due.is("normal(0, " + p + ")", x.normal(0, p), p);
                Due.is("normal(1, " + p + ")", x.normal(1, p), p);
            }
        }
    }

    // where every monomial is led
    private static void normalWithoutZeros() {
        for (int kind = 0; kind < 2; kind++) {
            BooleanGroebner x = new BooleanGroebner();
            x.order(kind);
            x.generate(1, 1);
            for (int p : EDGES) {
                Due.is("normal(1, " + p + ")", x.normal(1, p), 0);
            }
        }
    }

    private static void normalOfZero() {
        for (int[] counts : Picture.FILLINGS) {
            BooleanGroebner x = Picture.filled(counts, 0);
            Due.is("normal(0, 0)", x.normal(0, 0), 0);
            Due.is("normal(1, 0)", x.normal(1, 0), 0);
        }
    }

    // Promise 12: "-1 if k is not good"
    private static void basisSizeRefusesBadIdeals() {
        BooleanGroebner x = new BooleanGroebner();
        x.generate(0, 1);
        for (int k : Due.BAD_IDEALS) {
            Due.is("basisSize(" + k + ")", x.basisSize(k), -1);
        }
        Due.is("basisSize(0)", x.basisSize(0), 1);
        Due.is("basisSize(1)", x.basisSize(1), 0);
    }

    // Promise 12: "How many polynomials the basis has"; ten monomials at most, none part of another
    private static void basisSizeFromNoneToTen() {
        for (int kind = 0; kind < 2; kind++) {
            BooleanGroebner x = new BooleanGroebner();
            x.order(kind);
            Due.is("no generators", x.basisSize(0), 0);
            x.generate(0, 0);
            Due.is("only 0", x.basisSize(0), 0);
            x.generate(0, Due.LOWEST);
            Due.is("only 31", x.basisSize(0), 1);
            x.generate(0, Due.poly(1));
            x.generate(0, Due.poly(2));
            x.generate(0, Due.poly(4));
            x.generate(0, Due.poly(8));
            x.generate(0, Due.poly(16));
            Due.is("all variables", x.basisSize(0), 5);
            x.generate(0, 1);
            Due.is("no zeros", x.basisSize(0), 1);
            x.generate(1, manyVariables());
            Due.is("two variables or more", x.basisSize(1), 10);
        }
    }

    /** 1 at the points at which two or more variables are 1. */
    private static int manyVariables() {
        int sum = 0;
        for (int point = 0; point < 32; point++) {
            sum ^= Integer.bitCount(point) >= 2 ? Picture.single(point) : 0;
        }
        return sum;
    }

    // Promise 13: "0 if k is not good"
    private static void basisIsZeroForBadIdeals() {
        BooleanGroebner x = new BooleanGroebner();
        x.generate(0, Due.poly(1));
        x.generate(1, Due.poly(2));
        int[] positions = {0, 1, -1, Due.LOWEST, Due.HIGHEST};
        for (int k : Due.BAD_IDEALS) {
            for (int i : positions) {
                Due.is("basis(" + k + ", " + i + ")", x.basis(k, i), 0);
            }
        }
        Due.is("basis(0, 0)", x.basis(0, 0), Due.poly(1));
        Due.is("basis(1, 0)", x.basis(1, 0), Due.poly(2));
    }

    // Promise 13: "(0 for the first); 0 if .. there is no such one"
    private static void basisIsZeroOutside() {
        int[] bad = {10, 11, 31, 32, 33, 64, -1, -2, -10, -32, -33, Due.LOWEST, Due.HIGHEST};
        for (int kind = 0; kind < 2; kind++) {
            for (int k = 0; k < 2; k++) {
                BooleanGroebner x = new BooleanGroebner();
                x.order(kind);
                x.generate(k, manyVariables());
                for (int i = 0; i < 10; i++) {
                    Due.is("basis(" + k + ", " + i + ")", x.basis(k, i), Due.poly(TWO_VARIABLES[i]));
                }
                for (int i : bad) {
                    Due.is("basis(" + k + ", " + i + ")", x.basis(k, i), 0);
                    Due.is("basis of no generators", x.basis(1 - k, i), 0);
                }
                Due.is("first of no generators", x.basis(1 - k, 0), 0);
            }
        }
    }

    // What an earlier question found is not answered for a shorter basis.
    private static void basisOfEachIdealHasItsOwnEnd() {
        BooleanGroebner x = new BooleanGroebner();
        x.generate(0, manyVariables());
        x.generate(1, Due.poly(7));
        Due.is("last of ideal 0", x.basis(0, 9), Due.poly(24));
        Due.is("only one of ideal 1", x.basis(1, 0), Due.poly(7));
        Due.is("after the only one", x.basis(1, 1), 0);
        Due.is("last of ideal 0 in 1", x.basis(1, 9), 0);
        x.generate(0, 1);
        Due.is("the polynomial 1", x.basis(0, 0), 1);
        Due.is("alone", x.basis(0, 1), 0);
        Due.is("also at the old end", x.basis(0, 9), 0);
        x.clear(0);
        Due.is("none after clear", x.basis(0, 0), 0);
    }

    // Promise 14: "-1 if k is not good"
    private static void standardRefusesBadIdeals() {
        BooleanGroebner x = new BooleanGroebner();
        x.generate(0, 1);
        for (int k : Due.BAD_IDEALS) {
            Due.is("standard(" + k + ")", x.standard(k), -1);
        }
        Due.is("standard(0)", x.standard(0), 0);
        Due.is("standard(1)", x.standard(1), 32);
    }

    // Promise 14: "How many monomials are not led": as many as there are zeros
    private static void standardFromNoneToAll() {
        for (int kind = 0; kind < 2; kind++) {
            for (int count = 0; count <= 32; count++) {
                BooleanGroebner x = new BooleanGroebner();
                x.order(kind);
                x.generate(0, onesFrom(count));
                Due.is("standard by " + count + " zeros", x.standard(0), count);
            }
        }
    }

    /** 1 at the points from this one on. */
    private static int onesFrom(int point) {
        int sum = 0;
        for (int i = point; i < 32; i++) {
            sum ^= Picture.single(i);
        }
        return sum;
    }

    // Promise 15: "-1 if k is not good"
    private static void zerosRefusesBadIdeals() {
        BooleanGroebner x = new BooleanGroebner();
        x.generate(0, 1);
        for (int k : Due.BAD_IDEALS) {
            Due.is("zeros(" + k + ")", x.zeros(k), -1);
        }
        Due.is("zeros(0)", x.zeros(0), 0);
        Due.is("zeros(1)", x.zeros(1), 32);
    }

    // Promise 15: "How many zeros the ideal has"
    private static void zerosFromNoneToAll() {
        for (int count = 0; count <= 32; count++) {
            BooleanGroebner x = new BooleanGroebner();
            x.generate(0, onesFrom(count));
            Due.is("the first " + count, x.zeros(0), count);
            x.generate(1, onesFrom(32 - count) ^ 1);
            Due.is("the last " + count, x.zeros(1), count);
        }
        Due.is("no generators", new BooleanGroebner().zeros(1), 32);
    }

    // Promise 16: "-1 if k is not good"
    private static void nextZeroRefusesBadIdeals() {
        BooleanGroebner x = new BooleanGroebner();
        int[] afters = {Due.LOWEST, -1, 0, 30, 31, Due.HIGHEST};
        for (int k : Due.BAD_IDEALS) {
            for (int after : afters) {
                Due.is("nextZero(" + k + ", " + after + ")", x.nextZero(k, after), -1);
            }
        }
        Due.is("nextZero(0, -1)", x.nextZero(0, -1), 0);
        Due.is("nextZero(1, -1)", x.nextZero(1, -1), 0);
    }

    // Promise 16: "(any int)"
    private static void nextZeroAfterAnyInt() {
        BooleanGroebner x = new BooleanGroebner();
        int[] low = {Due.LOWEST, Due.LOWEST + 1, -33, -32, -31, -2, -1};
        int[] high = {31, 32, 33, 63, 64, Due.HIGHEST - 1, Due.HIGHEST};
        x.generate(1, Picture.single(0) ^ Picture.single(31));
        for (int after : low) {
            Due.is("every point, after " + after, x.nextZero(0, after), 0);
            Due.is("1 .. 30, after " + after, x.nextZero(1, after), 1);
        }
        for (int after : high) {
            Due.is("every point, after " + after, x.nextZero(0, after), -2);
            Due.is("1 .. 30, after " + after, x.nextZero(1, after), -2);
        }
        for (int after = 0; after < 31; after++) {
            Due.is("every point, after " + after, x.nextZero(0, after), after + 1);
            Due.is("1 .. 30, after " + after, x.nextZero(1, after), after < 30 ? after + 1 : -2);
        }
    }

    // Promise 16: "The least zero greater than after"
    private static void nextZeroIsGreaterThanAfter() {
        BooleanGroebner x = new BooleanGroebner();
        x.generate(0, Picture.single(5) ^ Picture.single(6) ^ Picture.single(31) ^ 1);
        Due.is("after -1", x.nextZero(0, -1), 5);
        Due.is("after 4", x.nextZero(0, 4), 5);
        Due.is("after 5", x.nextZero(0, 5), 6);
        Due.is("after 6", x.nextZero(0, 6), 31);
        Due.is("after 30", x.nextZero(0, 30), 31);
        Due.is("after 31", x.nextZero(0, 31), -2);
    }

    private static void nextZeroOfEachSingleZero() {
        for (int point = 0; point < 32; point++) {
            BooleanGroebner x = new BooleanGroebner();
            x.generate(1, Picture.single(point) ^ 1);
            Due.is("after MIN", x.nextZero(1, Due.LOWEST), point);
            Due.is("just before it", x.nextZero(1, point - 1), point);
            Due.is("at it", x.nextZero(1, point), -2);
            Due.is("after it", x.nextZero(1, point + 1), -2);
        }
    }

    // Promise 16: "-2 if there is none"
    private static void nextZeroWithoutZeros() {
        BooleanGroebner x = new BooleanGroebner();
        x.generate(0, 1);
        int[] afters = {Due.LOWEST, -1, 0, 15, 30, 31, Due.HIGHEST};
        for (int after : afters) {
            Due.is("after " + after, x.nextZero(0, after), -2);
        }
    }
}
