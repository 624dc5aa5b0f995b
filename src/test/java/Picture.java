import java.util.Arrays;

/**
 * Objects whose generators can be told apart, and all that calls show of an object: the questions
 * first, then each list emptied from the front, then the kind. An object is used up by it.
 */
final class Picture {
    /** By how the two lists are filled: empty, full, one of each, and neither. */
    static final int[][] FILLINGS = {{0, 0}, {8, 8}, {8, 0}, {0, 8}, {3, 5}};

    private static final int LENGTH = 200;

    private final int[] answers = new int[LENGTH];
    private int count = 0;

    private Picture() {
    }

    static BooleanGroebner filled(int[] counts, int kind) {
        BooleanGroebner x = new BooleanGroebner();
        for (int k = 0; k < 2; k++) {
            for (int i = 0; i < counts[k]; i++) {
                x.generate(k, generator(k, i));
            }
        }
        x.order(kind);
        return x;
    }

    /** 1 at a point that no other generator of the same list has. */
    static int generator(int k, int i) {
        return single(k == 0 ? 3 * i + 1 : 29 - 3 * i);
    }

    /** The polynomial that is 1 at this point alone. */
    static int single(int point) {
        int polynomial = 0;
        for (int m = 0; m < 32; m++) {
            if ((m & point) == point) {
                polynomial |= 1 << m;
            }
        }
        return polynomial;
    }

    /** Both objects are asked everything, so neither can be used after it. */
    static void same(String what, BooleanGroebner got, BooleanGroebner want) {
        int[] seen = of(got);
        int[] due = of(want);
        for (int i = 0; i < LENGTH; i++) {
            Due.is(what + ": answer " + i + " of the picture", seen[i], due[i]);
        }
    }

    private static int[] of(BooleanGroebner x) {
        Picture picture = new Picture();
        picture.put(x.leading(Due.poly(3, 4)));
        picture.put(x.within(0));
        picture.put(x.within(1));
        picture.put(x.commonZeros());
        for (int k = 0; k < 2; k++) {
            picture.ask(x, k);
        }
        for (int k = 0; k < 2; k++) {
            picture.empty(x, k);
        }
        picture.put(x.order(0));
        return Arrays.copyOf(picture.answers, LENGTH);
    }

    private void ask(BooleanGroebner x, int k) {
        put(x.generators(k));
        put(x.zeros(k));
        put(x.standard(k));
        put(x.basisSize(k));
        for (int i = 0; i < 6; i++) {
            put(x.basis(k, i));
        }
        put(x.normal(k, -1));
        put(x.normal(k, Due.LOWEST));
        put(x.contains(k, 1));
        for (int i = 0; i < 8; i++) {
            put(x.contains(k, generator(k, i)));
        }
        for (int after = -1; after < 32; after += 4) {
            put(x.nextZero(k, after));
        }
        put(x.fixed(k, 0, 0));
        put(x.fixed(k, 4, 1));
    }

    private void empty(BooleanGroebner x, int k) {
        for (int i = 0; i <= 8; i++) {
            put(x.contains(k, generator(k, 7)));
            put(x.nextZero(k, k == 0 ? 3 * i : 28 - 3 * i));
            put(x.retract(k, 0));
        }
    }

    private void put(int answer) {
        answers[count] = answer;
        count++;
    }
}
