/** All promises: long mixed runs, bad arguments among them, against the slow model. */
public final class ModelTest {
    private static final int RUNS = 400;
    private static final int CALLS = 512;
    private static final int[] EDGES = {
        0, 1, -1, 2, 3, 4, 5, 7, 8, 9, 15, 16, 30, 31, 32, 33, Due.LOWEST, Due.HIGHEST
    };

    private static long seed = 20261115L;

    public static void main(String[] args) {
        for (int run = 0; run < RUNS; run++) {
            BooleanGroebner x = new BooleanGroebner();
            Model y = new Model();
            for (int call = 0; call < CALLS; call++) {
                step("run " + run + ", call " + call + ": ", x, y);
            }
        }
        Due.end();
    }

    private static void step(String at, BooleanGroebner x, Model y) {
        int what = below(34);
        int k = below(24) == 0 ? edge() : below(2);
        int p = polynomial();
        int q = polynomial();
        int n = below(8) == 0 ? edge() : below(10);
        int b = below(10) == 0 ? edge() : below(2);
        String with = " k " + k + " p " + p + " q " + q + " n " + n + " b " + b;
        switch (what) {
            case 0, 1, 2, 3, 4 -> Due.is(at + "generate" + with, x.generate(k, p), y.generate(k, p));
            case 5, 6, 7 -> Due.is(at + "retract" + with, x.retract(k, n), y.retract(k, n));
            case 8 -> Due.is(at + "clear" + with, x.clear(k), y.clear(k));
            case 9, 10 -> Due.is(at + "order" + with, x.order(b), y.order(b));
            case 11 -> Due.is(at + "generators" + with, x.generators(k), y.generators(k));
            case 12 -> Due.is(at + "value" + with, x.value(p, n * 3), y.value(p, n * 3));
            case 13 -> Due.is(at + "product" + with, x.product(p, q), y.product(p, q));
            case 14 -> Due.is(at + "leading" + with, x.leading(p), y.leading(p));
            case 15, 16 -> Due.is(at + "contains" + with, x.contains(k, p), y.contains(k, p));
            case 17, 18, 19 -> Due.is(at + "normal" + with, x.normal(k, p), y.normal(k, p));
            case 20, 21 -> Due.is(at + "basisSize" + with, x.basisSize(k), y.basisSize(k));
            case 22, 23, 24 -> Due.is(at + "basis" + with, x.basis(k, n), y.basis(k, n));
            case 25 -> Due.is(at + "standard" + with, x.standard(k), y.standard(k));
            case 26 -> Due.is(at + "zeros" + with, x.zeros(k), y.zeros(k));
            case 27, 28 -> {
                int after = below(4) == 0 ? edge() : below(34) - 1;
                Due.is(at + "nextZero" + with + " " + after, x.nextZero(k, after), y.nextZero(k, after));
            }
            case 29, 30 -> Due.is(at + "within" + with, x.within(k), y.within(k));
            case 31 -> Due.is(at + "commonZeros" + with, x.commonZeros(), y.commonZeros());
            default -> Due.is(at + "fixed" + with, x.fixed(k, n, b), y.fixed(k, n, b));
        }
    }

    // Ideals of many random generators have no zeros, so most polynomials are of few monomials or
    // vanish at most points.
    private static int polynomial() {
        int shape = below(8);
        if (shape == 0) return edge();
        if (shape == 1) return next();
        if (shape == 2) return single(below(32)) ^ single(below(32));
        int sparse = 0;
        for (int i = 0; i <= shape / 2; i++) {
            sparse ^= 1 << below(32);
        }
        return sparse;
    }

    /** 1 at this point alone. */
    private static int single(int point) {
        int polynomial = 0;
        for (int m = 0; m < 32; m++) {
            if ((m & point) == point) polynomial ^= 1 << m;
        }
        return polynomial;
    }

    private static int edge() {
        return EDGES[below(EDGES.length)];
    }

    private static int below(int bound) {
        return Integer.remainderUnsigned(next(), bound);
    }

    private static int next() {
        seed = seed * 6364136223846793005L + 1442695040888963407L;
        return (int) (seed >>> 32);
    }
}
