/** Counts the answers that are not the due ones; every test ends with end(). */
final class Due {
    static final int LOWEST = Integer.MIN_VALUE;
    static final int HIGHEST = Integer.MAX_VALUE;
    static final int[] BAD_IDEALS = {-1, -2, 2, 3, 32, LOWEST, LOWEST + 1, HIGHEST - 1, HIGHEST};

    private static int wrong = 0;

    static void is(String call, int got, int want) {
        if (got != want) {
            wrong++;
            System.out.println(call + " answered " + got + ", due is " + want);
        }
    }

    static void end() {
        if (wrong != 0) {
            System.out.println(wrong + " answers are not as due");
            System.exit(1);
        }
        System.out.println("all answers are as due");
    }

    /** A polynomial written by its monomials. */
    static int poly(int... monomials) {
        int polynomial = 0;
        for (int monomial : monomials) {
            polynomial ^= 1 << monomial;
        }
        return polynomial;
    }
}
