import java.util.ArrayList;
import java.util.HashSet;
import java.util.List;
import java.util.Random;
import java.util.Set;

/**
 * Promises 11 to 14: ideals of every number of zeros, held against the definitions of "Terms". The
 * led monomials are found by going through all polynomials that could be led by one, without any
 * elimination, which both the class and the model use.
 */
public final class DefinitionsTest {
    private static final int SETS_OF_EACH_SIZE = 3;
    private static final Random DRAW = new Random(20261115L);

    public static void main(String[] args) {
        for (int zeros = 0; zeros <= 32; zeros++) {
            for (int set = 0; set < SETS_OF_EACH_SIZE; set++) {
                int zeroPoints = pointSet(zeros);
                for (int kind = 0; kind < 2; kind++) {
                    hold(zeroPoints, kind, set % 2);
                }
            }
        }
        Due.end();
    }

    private static int pointSet(int size) {
        int points = 0;
        while (Integer.bitCount(points) < size) {
            points |= 1 << DRAW.nextInt(32);
        }
        return points;
    }

    private static void hold(int zeroPoints, int kind, int k) {
        BooleanGroebner x = new BooleanGroebner();
        x.order(kind);
        for (int part = 0; part < 8; part++) {
            x.generate(k, oneAt(~zeroPoints & 0xF << 4 * part));
        }
        String at = "zeros " + Integer.toBinaryString(zeroPoints) + ", kind " + kind + ": ";
        int led = ledMonomials(zeroPoints, kind);
        Due.is(at + "standard", x.standard(k), 32 - Integer.bitCount(led));
        List<Integer> least = leastOf(led, kind);
        Due.is(at + "basisSize", x.basisSize(k), least.size());
        for (int i = 0; i < least.size(); i++) {
            int m = least.get(i);
            int rest = x.basis(k, i) ^ 1 << m;
            isNormal(at + "basis " + i, rest, 1 << m, zeroPoints, led);
        }
        for (int m = 0; m < 32; m++) {
            isNormal(at + "normal of " + m, x.normal(k, 1 << m), 1 << m, zeroPoints, led);
        }
        int p = DRAW.nextInt();
        isNormal(at + "normal of " + p, x.normal(k, p), p, zeroPoints, led);
    }

    // "the polynomial q without led monomials such that the sum of p and q is in the ideal"
    private static void isNormal(String what, int q, int p, int zeroPoints, int led) {
        Due.is(what + ": led monomials", q & led, 0);
        Due.is(what + ": zeros where the sum is 1", onesOf(p ^ q) & zeroPoints, 0);
    }

    // "LED if it is the leading monomial of some polynomial in the ideal"; the shorter way is taken
    private static int ledMonomials(int zeroPoints, int kind) {
        boolean fewZeros = Integer.bitCount(zeroPoints) <= 16;
        return fewZeros ? ledBySums(zeroPoints, kind) : ledByIdeal(zeroPoints, kind);
    }

    /** A monomial is led if, at the zeros, some sum of lower ones has its values. */
    private static int ledBySums(int zeroPoints, int kind) {
        int led = 0;
        Set<Integer> sumsOfLower = new HashSet<>();
        sumsOfLower.add(0);
        for (int m : rising(kind)) {
            int values = onesOf(1 << m) & zeroPoints;
            if (sumsOfLower.contains(values)) {
                led |= 1 << m;
                continue;
            }
            for (int sum : new ArrayList<>(sumsOfLower)) {
                sumsOfLower.add(sum ^ values);
            }
        }
        return led;
    }

    /** A polynomial of the ideal is a sum of those that are 1 at just one point that is no zero. */
    private static int ledByIdeal(int zeroPoints, int kind) {
        List<Integer> ideal = new ArrayList<>();
        ideal.add(0);
        for (int point = 0; point < 32; point++) {
            if ((zeroPoints >>> point & 1) == 1) continue;
            for (int polynomial : new ArrayList<>(ideal)) {
                ideal.add(polynomial ^ Picture.single(point));
            }
        }
        int led = 0;
        List<Integer> monomials = rising(kind);
        for (int polynomial : ideal) {
            for (int i = 31; i >= 0; i--) {
                int m = monomials.get(i);
                if ((polynomial >>> m & 1) == 0) continue;
                led |= 1 << m;
                break;
            }
        }
        return led;
    }

    // "LEAST if no led monomial has only some but not all of its variables and no others"
    private static List<Integer> leastOf(int led, int kind) {
        List<Integer> least = new ArrayList<>();
        for (int m : rising(kind)) {
            boolean isLeast = (led >>> m & 1) == 1;
            for (int part = 0; part < 32; part++) {
                if (part != m && (part | m) == m && (led >>> part & 1) == 1) isLeast = false;
            }
            if (isLeast) least.add(m);
        }
        return least;
    }

    private static List<Integer> rising(int kind) {
        List<Integer> monomials = new ArrayList<>();
        for (int variables = 0; variables <= 5; variables++) {
            for (int m = 0; m < 32; m++) {
                if (Integer.bitCount(m) == variables) monomials.add(m);
            }
        }
        if (kind == 1) monomials.sort(null);
        return monomials;
    }

    private static int oneAt(int points) {
        int polynomial = 0;
        for (int point = 0; point < 32; point++) {
            if ((points >>> point & 1) == 1) polynomial ^= Picture.single(point);
        }
        return polynomial;
    }

    private static int onesOf(int polynomial) {
        int points = 0;
        for (int point = 0; point < 32; point++) {
            int count = 0;
            for (int m = 0; m < 32; m++) {
                if ((polynomial >>> m & 1) == 1 && (m & point) == m) count++;
            }
            points |= count % 2 << point;
        }
        return points;
    }
}
