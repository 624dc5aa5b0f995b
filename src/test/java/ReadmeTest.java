/** The calls that README.md shows, with the answers that it tells. */
public final class ReadmeTest {
    public static void main(String[] args) {
        BooleanGroebner x = new BooleanGroebner();
        Due.is("generate", x.generate(0, 1 << 4 | 1 << 3), 1);
        Due.is("zeros", x.zeros(0), 16);
        Due.is("nextZero", x.nextZero(0, 2), 7);
        Due.is("contains", x.contains(0, 1 << 4), 0);
        Due.is("basisSize by kind 0", x.basisSize(0), 3);
        Due.is("basis", x.basis(0, 0), 24);
        Due.is("normal by kind 0", x.normal(0, 1 << 3), 16);
        Due.is("order", x.order(1), 0);
        Due.is("basisSize by kind 1", x.basisSize(0), 1);
        Due.is("normal by kind 1", x.normal(0, 1 << 4), 8);
        Due.is("retract", x.retract(0, 0), 0);
        Due.is("generate in no ideal", x.generate(2, 1), -1);
        Due.end();
    }
}
