import java.util.ArrayList;
import java.util.Comparator;
import java.util.List;

/**
 * The document's words, done the slow way. It eliminates among the polynomials of the ideal, where
 * the class eliminates among values at zeros, so that one fault is unlikely to be in both.
 */
final class Model {
    private final List<List<Integer>> lists = List.of(new ArrayList<>(), new ArrayList<>());
    private int kind = 0;

    int generate(int k, int polynomial) {
        if (bad(k)) return -1;
        if (lists.get(k).size() == 8) return -2;
        lists.get(k).add(polynomial);
        return lists.get(k).size();
    }

    int retract(int k, int position) {
        if (bad(k)) return -1;
        if (position < 0 || position >= lists.get(k).size()) return -2;
        lists.get(k).remove(position);
        return lists.get(k).size();
    }

    int clear(int k) {
        if (bad(k)) return -1;
        int before = lists.get(k).size();
        lists.get(k).clear();
        return before;
    }

    int order(int newKind) {
        if (newKind != 0 && newKind != 1) return -1;
        int before = kind;
        kind = newKind;
        return before;
    }

    int generators(int k) {
        return bad(k) ? -1 : lists.get(k).size();
    }

    int value(int polynomial, int point) {
        if (point < 0 || point > 31) return -1;
        int count = 0;
        for (int m = 0; m < 32; m++) {
            if (has(polynomial, m) && (m & point) == m) count++;
        }
        return count % 2;
    }

    int product(int p, int q) {
        int sum = 0;
        for (int m = 0; m < 32; m++) {
            for (int n = 0; n < 32; n++) {
                if (has(p, m) && has(q, n)) sum ^= 1 << (m | n);
            }
        }
        return sum;
    }

    int leading(int polynomial) {
        int highest = -1;
        for (int m : rising()) {
            if (has(polynomial, m)) highest = m;
        }
        return highest;
    }

    int contains(int k, int polynomial) {
        if (bad(k)) return -1;
        for (int point : zeroList(k)) {
            if (value(polynomial, point) != 0) return 0;
        }
        return 1;
    }

    int normal(int k, int polynomial) {
        return bad(k) ? 0 : rest(polynomial, echelon(k));
    }

    int basisSize(int k) {
        return bad(k) ? -1 : basisList(k).size();
    }

    int basis(int k, int i) {
        if (bad(k)) return 0;
        List<Integer> all = basisList(k);
        return i < 0 || i >= all.size() ? 0 : all.get(i);
    }

    int standard(int k) {
        if (bad(k)) return -1;
        int count = 0;
        for (int row : echelon(k)) {
            if (row == 0) count++;
        }
        return count;
    }

    int zeros(int k) {
        return bad(k) ? -1 : zeroList(k).size();
    }

    int nextZero(int k, int after) {
        if (bad(k)) return -1;
        for (int point : zeroList(k)) {
            if (point > after) return point;
        }
        return -2;
    }

    // The polynomials of the echelon span the ideal, so the others need no test.
    int within(int k) {
        if (bad(k)) return -1;
        for (int polynomial : echelon(k)) {
            if (contains(1 - k, polynomial) == 0) return 0;
        }
        return 1;
    }

    int commonZeros() {
        List<Integer> common = zeroList(0);
        common.retainAll(zeroList(1));
        return common.size();
    }

    int fixed(int k, int variable, int b) {
        if (bad(k)) return -1;
        if (variable < 0 || variable > 4) return -2;
        if (b != 0 && b != 1) return -3;
        for (int point : zeroList(k)) {
            if (value(1 << (1 << variable), point) != b) return 0;
        }
        return 1;
    }

    private static boolean bad(int k) {
        return k != 0 && k != 1;
    }

    private static boolean has(int polynomial, int monomial) {
        return (polynomial >>> monomial & 1) == 1;
    }

    private List<Integer> rising() {
        List<Integer> monomials = new ArrayList<>();
        for (int m = 0; m < 32; m++) monomials.add(m);
        if (kind == 0) monomials.sort(Comparator.comparingInt(Integer::bitCount));
        return monomials;
    }

    private List<Integer> zeroList(int k) {
        List<Integer> points = new ArrayList<>();
        for (int point = 0; point < 32; point++) {
            boolean zero = true;
            for (int generator : lists.get(k)) {
                if (value(generator, point) != 0) zero = false;
            }
            if (zero) points.add(point);
        }
        return points;
    }

    /**
     * At each led monomial a polynomial of the ideal that it leads, elsewhere 0. The ideal is spanned
     * by the polynomials that are 1 at a single point that is no zero.
     */
    private int[] echelon(int k) {
        int[] led = new int[32];
        List<Integer> zeroPoints = zeroList(k);
        for (int point = 0; point < 32; point++) {
            if (zeroPoints.contains(point)) continue;
            int single = 0;
            for (int m = 0; m < 32; m++) {
                if ((m & point) == point) single ^= 1 << m;
            }
            int rest = rest(single, led);
            if (rest != 0) led[leading(rest)] = rest;
        }
        return led;
    }

    private int rest(int polynomial, int[] led) {
        List<Integer> monomials = rising();
        int rest = polynomial;
        for (int i = 31; i >= 0; i--) {
            int m = monomials.get(i);
            if (has(rest, m) && led[m] != 0) rest ^= led[m];
        }
        return rest;
    }

    private List<Integer> basisList(int k) {
        int[] led = echelon(k);
        List<Integer> all = new ArrayList<>();
        for (int m : rising()) {
            boolean least = led[m] != 0;
            for (int n = 0; n < 32; n++) {
                if (n != m && (n & m) == n && led[n] != 0) least = false;
            }
            if (least) all.add(1 << m ^ rest(1 << m, led));
        }
        return all;
    }
}
