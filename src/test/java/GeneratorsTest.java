/** Promises 1 to 6, and from 20 the places in the list. */
public final class GeneratorsTest {
    public static void main(String[] args) {
        newObject();
        generate();
        retract();
        retractKeepsTheOrder();
        clear();
        order();
        badIdeals();
        objectsAreApart();
        Due.end();
    }

    private static void newObject() {
        BooleanGroebner x = new BooleanGroebner();
        for (int k = 0; k < 2; k++) {
            Due.is("new: generators", x.generators(k), 0);
            Due.is("new: zeros", x.zeros(k), 32);
            Due.is("new: basisSize", x.basisSize(k), 0);
            Due.is("new: retract", x.retract(k, 0), -2);
            Due.is("new: clear", x.clear(k), 0);
        }
        Due.is("new: leading by kind 0", x.leading(Due.poly(4, 3)), 3);
        Due.is("new: order", x.order(0), 0);
    }

    private static void generate() {
        BooleanGroebner x = new BooleanGroebner();
        for (int count = 1; count <= 8; count++) {
            Due.is("generate in 0", x.generate(0, 0), count);
            Due.is("generators of 0", x.generators(0), count);
        }
        Due.is("generate a ninth", x.generate(0, 1), -2);
        Due.is("generators after the ninth", x.generators(0), 8);
        Due.is("zeros after the ninth", x.zeros(0), 32);
        Due.is("generators of 1 beside", x.generators(1), 0);
        for (int count = 1; count <= 8; count++) {
            Due.is("generate in 1", x.generate(1, 1), count);
        }
        Due.is("generate a ninth in 1", x.generate(1, 0), -2);
        Due.is("0 untouched by 1", x.zeros(0), 32);
        Due.is("1 has no zeros", x.zeros(1), 0);
        Due.is("room again", x.retract(0, 3), 7);
        Due.is("generate into it", x.generate(0, 1), 8);
        Due.is("zeros then", x.zeros(0), 0);
    }

    private static void retract() {
        BooleanGroebner x = new BooleanGroebner();
        x.generate(0, Due.poly(1));
        x.generate(0, Due.poly(2));
        x.generate(1, Due.poly(4));
        int[] bad = {-1, 2, 3, 8, Due.LOWEST, Due.HIGHEST};
        for (int position : bad) {
            Due.is("retract(0, " + position + ")", x.retract(0, position), -2);
        }
        Due.is("retract(1, 1)", x.retract(1, 1), -2);
        Due.is("generators", x.generators(0), 2);
        Due.is("zeros", x.zeros(0), 8);
        Due.is("retract the first", x.retract(0, 0), 1);
        Due.is("x1 stays", x.contains(0, Due.poly(2)), 1);
        Due.is("x0 is gone", x.contains(0, Due.poly(1)), 0);
        Due.is("retract the last", x.retract(0, 0), 0);
        Due.is("retract from none", x.retract(0, 0), -2);
        Due.is("the other ideal", x.generators(1), 1);
        Due.is("its zeros", x.zeros(1), 16);
    }

    private static void retractKeepsTheOrder() {
        int[] monomials = {1, 2, 4, 8, 16};
        for (int k = 0; k < 2; k++) {
            for (int out = 0; out < 6; out++) {
                BooleanGroebner x = new BooleanGroebner();
                java.util.List<Integer> list = new java.util.ArrayList<>();
                for (int monomial : monomials) {
                    x.generate(k, Due.poly(monomial));
                    list.add(Due.poly(monomial));
                }
                x.generate(k, Due.poly(1));
                list.add(Due.poly(1));
                x.retract(k, out);
                list.remove(out);
                x.generate(k, Due.poly(31));
                list.add(Due.poly(31));
                emptyFromTheFront(x, k, list);
            }
        }
    }

    private static void emptyFromTheFront(BooleanGroebner x, int k, java.util.List<Integer> list) {
        while (!list.isEmpty()) {
            for (int variable = 0; variable < 5; variable++) {
                int p = Due.poly(1 << variable);
                Due.is("x" + variable + " in the rest", x.contains(k, p), list.contains(p) ? 1 : 0);
            }
            list.remove(0);
            Due.is("retract the front", x.retract(k, 0), list.size());
        }
    }

    private static void clear() {
        BooleanGroebner x = new BooleanGroebner();
        x.generate(0, 1);
        x.generate(0, 1);
        x.generate(0, 0);
        x.generate(1, 2);
        x.order(1);
        Due.is("clear(0)", x.clear(0), 3);
        Due.is("generators(0)", x.generators(0), 0);
        Due.is("zeros(0)", x.zeros(0), 32);
        Due.is("clear(0) again", x.clear(0), 0);
        Due.is("generators(1)", x.generators(1), 1);
        Due.is("the kind stays", x.order(1), 1);
        Due.is("generate after clear", x.generate(0, 0), 1);
        Due.is("nothing comes back", x.zeros(0), 32);
        Due.is("clear(1)", x.clear(1), 1);
    }

    private static void order() {
        BooleanGroebner x = new BooleanGroebner();
        Due.is("order(1)", x.order(1), 0);
        Due.is("order(1) again", x.order(1), 1);
        int[] bad = {-1, 2, Due.LOWEST, Due.HIGHEST};
        for (int kind : bad) {
            Due.is("order(" + kind + ")", x.order(kind), -1);
        }
        Due.is("still by kind 1", x.leading(Due.poly(3, 4)), 4);
        Due.is("order(0)", x.order(0), 1);
        Due.is("order(2)", x.order(2), -1);
        Due.is("order(0) again", x.order(0), 0);
    }

    private static void badIdeals() {
        BooleanGroebner x = new BooleanGroebner();
        for (int i = 0; i < 8; i++) {
            x.generate(0, 0);
            x.generate(1, 0);
        }
        for (int k : Due.BAD_IDEALS) {
            Due.is("generate(" + k + ", 1)", x.generate(k, 1), -1);
            Due.is("retract(" + k + ", 0)", x.retract(k, 0), -1);
            Due.is("retract(" + k + ", -1)", x.retract(k, -1), -1);
            Due.is("clear(" + k + ")", x.clear(k), -1);
            Due.is("generators(" + k + ")", x.generators(k), -1);
        }
        for (int k = 0; k < 2; k++) {
            Due.is("generators(" + k + ")", x.generators(k), 8);
            Due.is("zeros(" + k + ")", x.zeros(k), 32);
        }
    }

    private static void objectsAreApart() {
        BooleanGroebner x = new BooleanGroebner();
        BooleanGroebner y = new BooleanGroebner();
        x.generate(0, 1);
        x.order(1);
        Due.is("generators of another object", y.generators(0), 0);
        Due.is("zeros of another object", y.zeros(0), 32);
        Due.is("kind of another object", y.order(0), 0);
    }
}
