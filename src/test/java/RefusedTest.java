/** Refused calls and questions change nothing, and the tests are made in the order named. */
public final class RefusedTest {
    /** One call on an object that is left as it was. */
    private interface Call {
        int on(BooleanGroebner x);
    }

    private static final int[] BAD = {-1, 2, Due.LOWEST, Due.HIGHEST};

    public static void main(String[] args) {
        refusedForTheIdeal();
        refusedForTheFullList();
        refusedForThePosition();
        refusedForTheKind();
        refusedQuestions();
        questions();
        manyRefusalsInOneObject();
        generateTestsTheIdealFirst();
        retractTestsTheIdealFirst();
        nextZeroTestsTheIdealFirst();
        fixedTestsInItsOrder();
        Due.end();
    }

    // "A refused call changes nothing", from every filling and by either kind
    private static void changesNothing(String what, int want, Call call) {
        for (int[] counts : Picture.FILLINGS) {
            changesNothingIn(counts, what, want, call);
        }
    }

    private static void changesNothingIn(int[] counts, String what, int want, Call call) {
        for (int kind = 0; kind < 2; kind++) {
            BooleanGroebner x = Picture.filled(counts, kind);
            String at = what + " with " + counts[0] + " and " + counts[1] + " by kind " + kind;
            Due.is(at, call.on(x), want);
            Picture.same(at, x, Picture.filled(counts, kind));
        }
    }

    private static void refusedForTheIdeal() {
        for (int k : BAD) {
            changesNothing("generate(" + k + ", 1)", -1, x -> x.generate(k, 1));
            changesNothing("retract(" + k + ", 0)", -1, x -> x.retract(k, 0));
            changesNothing("clear(" + k + ")", -1, x -> x.clear(k));
        }
    }

    private static void refusedForTheFullList() {
        int[] full = {8, 8};
        changesNothingIn(full, "generate(0, 1)", -2, x -> x.generate(0, 1));
        changesNothingIn(full, "generate(1, 1)", -2, x -> x.generate(1, 1));
        changesNothingIn(full, "generate(0, MIN)", -2, x -> x.generate(0, Due.LOWEST));
        changesNothingIn(full, "generate(1, 0)", -2, x -> x.generate(1, 0));
        changesNothingIn(new int[] {8, 0}, "generate(0, 1)", -2, x -> x.generate(0, 1));
        changesNothingIn(new int[] {0, 8}, "generate(1, 1)", -2, x -> x.generate(1, 1));
    }

    private static void refusedForThePosition() {
        int[] always = {-1, 8, Due.LOWEST, Due.HIGHEST};
        for (int k = 0; k < 2; k++) {
            int ideal = k;
            for (int position : always) {
                String what = "retract(" + k + ", " + position + ")";
                changesNothing(what, -2, x -> x.retract(ideal, position));
            }
            for (int[] counts : Picture.FILLINGS) {
                int end = counts[k];
                changesNothingIn(counts, "retract at the end", -2, x -> x.retract(ideal, end));
            }
        }
    }

    private static void refusedForTheKind() {
        for (int kind : BAD) {
            changesNothing("order(" + kind + ")", -1, x -> x.order(kind));
        }
    }

    private static void refusedQuestions() {
        for (int bad : BAD) {
            changesNothing("generators", -1, x -> x.generators(bad));
            changesNothing("contains", -1, x -> x.contains(bad, 0));
            changesNothing("normal", 0, x -> x.normal(bad, 1));
            changesNothing("basisSize", -1, x -> x.basisSize(bad));
            changesNothing("basis", 0, x -> x.basis(bad, 0));
            changesNothing("standard", -1, x -> x.standard(bad));
            changesNothing("zeros", -1, x -> x.zeros(bad));
            changesNothing("nextZero", -1, x -> x.nextZero(bad, 0));
            changesNothing("within", -1, x -> x.within(bad));
            changesNothing("fixed, ideal", -1, x -> x.fixed(bad, 0, 0));
            changesNothing("fixed, value", -3, x -> x.fixed(0, 0, bad));
        }
        changesNothing("value at -1", -1, x -> x.value(-1, -1));
        changesNothing("value at 32", -1, x -> x.value(-1, 32));
        changesNothing("basis at -1", 0, x -> x.basis(0, -1));
        changesNothing("basis at 32", 0, x -> x.basis(1, 32));
        changesNothing("nextZero after 31", -2, x -> x.nextZero(1, 31));
        changesNothing("fixed, variable -1", -2, x -> x.fixed(1, -1, 0));
        changesNothing("fixed, variable 5", -2, x -> x.fixed(1, 5, 0));
        changesNothing("leading of 0", -1, x -> x.leading(0));
    }

    // "No question changes anything"
    private static void questions() {
        for (int k = 0; k < 2; k++) {
            int ideal = k;
            asked("generators", x -> x.generators(ideal));
            asked("contains", x -> x.contains(ideal, 1));
            asked("normal", x -> x.normal(ideal, -1));
            asked("basisSize", x -> x.basisSize(ideal));
            asked("basis", x -> x.basis(ideal, 0));
            asked("standard", x -> x.standard(ideal));
            asked("zeros", x -> x.zeros(ideal));
            asked("nextZero", x -> x.nextZero(ideal, -1));
            asked("within", x -> x.within(ideal));
            asked("fixed", x -> x.fixed(ideal, 4, 1));
        }
        asked("value", x -> x.value(-2, 31));
        asked("product", x -> x.product(-2, Due.LOWEST));
        asked("leading", x -> x.leading(-2));
        asked("commonZeros", x -> x.commonZeros());
    }

    private static void asked(String what, Call question) {
        for (int[] counts : Picture.FILLINGS) {
            for (int kind = 0; kind < 2; kind++) {
                askedOnce(what, question, counts, kind);
                askedTwice(what, question, counts, kind);
            }
        }
    }

    // A change that the next asking undoes would not be seen after two.
    private static void askedOnce(String what, Call question, int[] counts, int kind) {
        BooleanGroebner x = Picture.filled(counts, kind);
        question.on(x);
        Picture.same(what + " asked once", x, Picture.filled(counts, kind));
    }

    private static void askedTwice(String what, Call question, int[] counts, int kind) {
        BooleanGroebner x = Picture.filled(counts, kind);
        int first = question.on(x);
        Due.is(what + " asked again", question.on(x), first);
        Picture.same(what + " asked twice", x, Picture.filled(counts, kind));
    }

    private static void manyRefusalsInOneObject() {
        int[] full = {8, 8};
        for (int kind = 0; kind < 2; kind++) {
            BooleanGroebner x = Picture.filled(full, kind);
            for (int bad : BAD) {
                Due.is("generate for the ideal", x.generate(bad, 1), -1);
                Due.is("generate for the list", x.generate(0, bad), -2);
                Due.is("generate for the list", x.generate(1, bad), -2);
                Due.is("retract for the ideal", x.retract(bad, 0), -1);
                Due.is("retract for the position", x.retract(0, bad == 2 ? 8 : bad), -2);
                Due.is("retract for the position", x.retract(1, bad == 2 ? 8 : bad), -2);
                Due.is("clear", x.clear(bad), -1);
                Due.is("order", x.order(bad), -1);
            }
            Picture.same("many refusals", x, Picture.filled(full, kind));
        }
    }

    // "In every method the tests are made in the order named": -1 before -2
    private static void generateTestsTheIdealFirst() {
        BooleanGroebner x = Picture.filled(new int[] {8, 8}, 0);
        for (int k : Due.BAD_IDEALS) {
            Due.is("generate(" + k + ", 0) with full lists", x.generate(k, 0), -1);
        }
        Due.is("generate(0, 0) with full lists", x.generate(0, 0), -2);
        Due.is("generate(1, 0) with full lists", x.generate(1, 0), -2);
    }

    private static void retractTestsTheIdealFirst() {
        int[] positions = {-1, 0, 8, Due.LOWEST, Due.HIGHEST};
        BooleanGroebner x = new BooleanGroebner();
        for (int position : positions) {
            for (int k : Due.BAD_IDEALS) {
                Due.is("retract(" + k + ", " + position + ")", x.retract(k, position), -1);
            }
            Due.is("retract(0, " + position + ")", x.retract(0, position), -2);
            Due.is("retract(1, " + position + ")", x.retract(1, position), -2);
        }
    }

    private static void nextZeroTestsTheIdealFirst() {
        BooleanGroebner x = new BooleanGroebner();
        x.generate(0, 1);
        x.generate(1, 1);
        int[] afters = {Due.LOWEST, -1, 31, Due.HIGHEST};
        for (int after : afters) {
            for (int k : Due.BAD_IDEALS) {
                Due.is("nextZero(" + k + ", " + after + ")", x.nextZero(k, after), -1);
            }
            Due.is("nextZero(0, " + after + ")", x.nextZero(0, after), -2);
            Due.is("nextZero(1, " + after + ")", x.nextZero(1, after), -2);
        }
    }

    // -1 before -2 before -3
    private static void fixedTestsInItsOrder() {
        int[] badVariables = {-1, 5, Due.LOWEST, Due.HIGHEST};
        for (int variable : badVariables) {
            for (int b : BAD) {
                BooleanGroebner x = new BooleanGroebner();
                for (int k : BAD) {
                    Due.is("all three bad", x.fixed(k, variable, b), -1);
                    Due.is("ideal and variable bad", x.fixed(k, variable, 0), -1);
                    Due.is("ideal and value bad", x.fixed(k, 0, b), -1);
                }
                for (int k = 0; k < 2; k++) {
                    Due.is("variable and value bad", x.fixed(k, variable, b), -2);
                    Due.is("variable bad", x.fixed(k, variable, 1), -2);
                    Due.is("value bad", x.fixed(k, 4, b), -3);
                }
            }
        }
    }
}
