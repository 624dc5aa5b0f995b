/** Promises 1 to 6, and from 20 the list: each sentence that names a limit, with a test of its own. */
public final class ListBoundsTest {
    public static void main(String[] args) {
        newObjectHasNoGenerators();
        newObjectIsOfKindZero();
        generateRefusesBadIdeals();
        generateTakesEightAndNoNinth();
        generateHasRoomAgain();
        generateAnswersHowManyThereAreNow();
        generateTakesZero();
        generateTakesWhatIsThereAlready();
        generateTakesAnyInt();
        generatePutsAtTheEnd();
        retractRefusesBadIdeals();
        retractPositionsByCount();
        retractOldPositions();
        retractPositionsOfTheOtherIdeal();
        retractMovesLaterOnesDown();
        retractOfOneOfTwoAlike();
        clearRefusesBadIdeals();
        clearOfEachCount();
        clearKeepsTheRest();
        orderTakesZeroAndOne();
        orderAnswersTheOneBefore();
        generatorsRefusesBadIdeals();
        generatorsOfEachCount();
        Due.end();
    }

    // Promise 1: "No generators"
    private static void newObjectHasNoGenerators() {
        for (int k = 0; k < 2; k++) {
            Due.is("generators", new BooleanGroebner().generators(k), 0);
            Due.is("clear", new BooleanGroebner().clear(k), 0);
            Due.is("retract", new BooleanGroebner().retract(k, 0), -2);
            Due.is("zeros", new BooleanGroebner().zeros(k), 32);
            Due.is("generate", new BooleanGroebner().generate(k, 1), 1);
        }
    }

    // Promise 1: "order of kind 0"
    private static void newObjectIsOfKindZero() {
        Due.is("order(0)", new BooleanGroebner().order(0), 0);
        Due.is("order(1)", new BooleanGroebner().order(1), 0);
    }

    // Promise 2: "-1 if k is not good"
    private static void generateRefusesBadIdeals() {
        BooleanGroebner x = new BooleanGroebner();
        for (int k : Due.BAD_IDEALS) {
            Due.is("generate(" + k + ", 1)", x.generate(k, 1), -1);
        }
        Due.is("generate(0, 0)", x.generate(0, 0), 1);
        Due.is("generate(1, 0)", x.generate(1, 0), 1);
        Due.is("no zero was lost", x.commonZeros(), 32);
    }

    // Promise 2: "-2 if the ideal has 8"
    private static void generateTakesEightAndNoNinth() {
        for (int k = 0; k < 2; k++) {
            BooleanGroebner x = new BooleanGroebner();
            for (int i = 0; i < 7; i++) {
                x.generate(k, 0);
            }
            Due.is("the eighth", x.generate(k, Due.poly(1)), 8);
            Due.is("the ninth", x.generate(k, Due.poly(2)), -2);
            Due.is("the ninth, 0", x.generate(k, 0), -2);
            Due.is("the ninth, there already", x.generate(k, Due.poly(1)), -2);
            Due.is("still eight", x.generators(k), 8);
            Due.is("only the eighth counts", x.zeros(k), 16);
            Due.is("none went to the other", x.generators(1 - k), 0);
            Due.is("zeros of the other", x.zeros(1 - k), 32);
            Due.is("the other has room", x.generate(1 - k, Due.poly(4)), 1);
            Due.is("the eighth stays", x.contains(k, Due.poly(1)), 1);
            Due.is("the other's is not in", x.contains(k, Due.poly(4)), 0);
        }
    }

    private static void generateHasRoomAgain() {
        for (int k = 0; k < 2; k++) {
            BooleanGroebner x = Picture.filled(new int[] {8, 8}, 0);
            Due.is("full", x.generate(k, 0), -2);
            Due.is("one out", x.retract(k, 7), 7);
            Due.is("one in", x.generate(k, 0), 8);
            Due.is("full again", x.generate(k, 0), -2);
            Due.is("all out", x.clear(k), 8);
            for (int i = 1; i <= 8; i++) {
                Due.is("in again", x.generate(k, 0), i);
            }
            Due.is("full once more", x.generate(k, 0), -2);
            Due.is("the other is as full", x.generate(1 - k, 0), -2);
        }
    }

    // Promise 2: "otherwise answers how many it has now"
    private static void generateAnswersHowManyThereAreNow() {
        BooleanGroebner x = new BooleanGroebner();
        for (int i = 1; i <= 8; i++) {
            Due.is("generate in 0", x.generate(0, 0), i);
            Due.is("generate in 1", x.generate(1, 0), i);
        }
    }

    // Promise 20: "also if it is 0"
    private static void generateTakesZero() {
        BooleanGroebner x = new BooleanGroebner();
        Due.is("generate 0", x.generate(0, 0), 1);
        Due.is("generate x0", x.generate(0, Due.poly(1)), 2);
        Due.is("generate 0 again", x.generate(0, 0), 3);
        Due.is("generators", x.generators(0), 3);
        Due.is("the first is the 0", x.retract(0, 0), 2);
        Due.is("so x0 stays", x.zeros(0), 16);
        Due.is("the last is a 0", x.retract(0, 1), 1);
        Due.is("so x0 stays again", x.zeros(0), 16);
        Due.is("x0 is at position 0", x.retract(0, 0), 0);
        Due.is("and is gone", x.zeros(0), 32);
    }

    // Promise 20: "or in the list already"
    private static void generateTakesWhatIsThereAlready() {
        BooleanGroebner x = new BooleanGroebner();
        for (int i = 1; i <= 8; i++) {
            Due.is("generate the same", x.generate(1, Due.poly(16)), i);
            Due.is("zeros", x.zeros(1), 16);
        }
        Due.is("a ninth of the same", x.generate(1, Due.poly(16)), -2);
        for (int i = 7; i >= 0; i--) {
            Due.is("it is there still", x.contains(1, Due.poly(16)), 1);
            Due.is("retract one", x.retract(1, 0), i);
        }
        Due.is("it is gone", x.contains(1, Due.poly(16)), 0);
    }

    private static void generateTakesAnyInt() {
        int[] edges = {Due.LOWEST, Due.LOWEST + 1, -2, -1, 0, 1, 2, Due.HIGHEST - 1, Due.HIGHEST};
        for (int p : edges) {
            BooleanGroebner x = new BooleanGroebner();
            Due.is("generate(0, " + p + ")", x.generate(0, p), 1);
            Due.is("contains(0, " + p + ")", x.contains(0, p), 1);
            Due.is("normal(0, " + p + ")", x.normal(0, p), 0);
        }
    }

    // Promise 20: "puts the polynomial at the end of the list", "the position of the first generator is 0"
    private static void generatePutsAtTheEnd() {
        for (int k = 0; k < 2; k++) {
            for (int count = 1; count <= 8; count++) {
                BooleanGroebner x = new BooleanGroebner();
                for (int i = 0; i < count; i++) {
                    x.generate(k, Picture.generator(k, i));
                }
                Due.is("the end is out", x.retract(k, count - 1), count - 1);
                Due.is("the last put in is gone", x.contains(k, Picture.generator(k, count - 1)), 0);
                for (int i = 0; i < count - 1; i++) {
                    Due.is("the others stay", x.contains(k, Picture.generator(k, i)), 1);
                }
                Due.is("position 0", x.retract(k, 0), count > 1 ? count - 2 : -2);
                Due.is("the first put in is gone", x.contains(k, Picture.generator(k, 0)), 0);
            }
        }
    }

    // Promise 3: "-1 if k is not good"
    private static void retractRefusesBadIdeals() {
        BooleanGroebner x = Picture.filled(new int[] {8, 8}, 0);
        for (int k : Due.BAD_IDEALS) {
            Due.is("retract(" + k + ", 0)", x.retract(k, 0), -1);
        }
        Due.is("generators(0)", x.generators(0), 8);
        Due.is("generators(1)", x.generators(1), 8);
        Due.is("retract(0, 0)", x.retract(0, 0), 7);
        Due.is("retract(1, 0)", x.retract(1, 0), 7);
    }

    // Promise 3: "-2 if there is none at this position; otherwise answers how many are left"
    private static void retractPositionsByCount() {
        for (int k = 0; k < 2; k++) {
            for (int count = 0; count <= 8; count++) {
                BooleanGroebner x = new BooleanGroebner();
                for (int i = 0; i < count; i++) {
                    x.generate(k, Picture.generator(k, i));
                }
                int[] none = {count, count + 1, 8, 9, 16, -1, -2, -8, Due.LOWEST, Due.HIGHEST};
                for (int position : none) {
                    Due.is(position + " of " + count, x.retract(k, position), -2);
                }
                Due.is("none is gone", x.generators(k), count);
                Due.is("nor a zero won", x.zeros(k), 32 - count);
                for (int last = count - 1; last >= 0; last--) {
                    Due.is("the last, " + last, x.retract(k, last), last);
                }
                Due.is("none left", x.retract(k, 0), -2);
            }
        }
    }

    private static void retractOldPositions() {
        BooleanGroebner x = Picture.filled(new int[] {8, 8}, 0);
        Due.is("position 7 of 8", x.retract(0, 7), 7);
        Due.is("position 7 of 7", x.retract(0, 7), -2);
        Due.is("position 0 of 7", x.retract(0, 0), 6);
        Due.is("position 6 of 6", x.retract(0, 6), -2);
        x.clear(0);
        Due.is("position 0 after clear", x.retract(0, 0), -2);
        Due.is("the other ideal has all", x.generators(1), 8);
        Due.is("and its zeros", x.zeros(1), 24);
    }

    private static void retractPositionsOfTheOtherIdeal() {
        BooleanGroebner x = Picture.filled(new int[] {1, 8}, 0);
        Due.is("position 1 of ideal 0", x.retract(0, 1), -2);
        Due.is("position 7 of ideal 0", x.retract(0, 7), -2);
        Due.is("position 8 of ideal 0", x.retract(0, 8), -2);
        Due.is("position -1 of ideal 1", x.retract(1, -1), -2);
        Due.is("position -8 of ideal 1", x.retract(1, -8), -2);
        Due.is("generators(0)", x.generators(0), 1);
        Due.is("generators(1)", x.generators(1), 8);
        Due.is("position 7 of ideal 1", x.retract(1, 7), 7);
    }

    // Promise 3: "later ones move down by one"; promise 20: "retract leaves the others in their order"
    private static void retractMovesLaterOnesDown() {
        for (int k = 0; k < 2; k++) {
            for (int out = 0; out < 8; out++) {
                BooleanGroebner x = Picture.filled(new int[] {8, 8}, 0);
                Due.is("retract " + out, x.retract(k, out), 7);
                Due.is("it is gone", x.contains(k, Picture.generator(k, out)), 0);
                for (int i = 0; i < 8; i++) {
                    if (i != out) {
                        takeTheFirst(x, k, i);
                    }
                }
                Due.is("none left", x.generators(k), 0);
                Due.is("the other ideal has all", x.zeros(1 - k), 24);
            }
        }
    }

    private static void takeTheFirst(BooleanGroebner x, int k, int due) {
        int left = x.generators(k);
        Due.is(due + " is there", x.contains(k, Picture.generator(k, due)), 1);
        Due.is("take the first", x.retract(k, 0), left - 1);
        Due.is(due + " was the first", x.contains(k, Picture.generator(k, due)), 0);
    }

    private static void retractOfOneOfTwoAlike() {
        BooleanGroebner x = new BooleanGroebner();
        x.generate(0, Due.poly(1));
        x.generate(0, Due.poly(2));
        x.generate(0, Due.poly(1));
        Due.is("the later x0 out", x.retract(0, 2), 2);
        Due.is("the first x0 stays", x.contains(0, Due.poly(1)), 1);
        Due.is("position 0 is x0", x.retract(0, 0), 1);
        Due.is("x0 is gone", x.contains(0, Due.poly(1)), 0);
        Due.is("x1 stays", x.contains(0, Due.poly(2)), 1);
    }

    // Promise 4: "-1 if k is not good"
    private static void clearRefusesBadIdeals() {
        BooleanGroebner x = Picture.filled(new int[] {8, 3}, 0);
        for (int k : Due.BAD_IDEALS) {
            Due.is("clear(" + k + ")", x.clear(k), -1);
        }
        Due.is("generators(0)", x.generators(0), 8);
        Due.is("generators(1)", x.generators(1), 3);
        Due.is("zeros(0)", x.zeros(0), 24);
        Due.is("zeros(1)", x.zeros(1), 29);
    }

    // Promise 4: "otherwise answers how many there were"
    private static void clearOfEachCount() {
        for (int k = 0; k < 2; k++) {
            BooleanGroebner x = new BooleanGroebner();
            for (int count = 0; count <= 8; count++) {
                for (int i = 0; i < count; i++) {
                    x.generate(k, 1);
                }
                Due.is("clear of " + count, x.clear(k), count);
                Due.is("none left", x.generators(k), 0);
                Due.is("every point is a zero", x.zeros(k), 32);
                Due.is("clear again", x.clear(k), 0);
            }
        }
    }

    private static void clearKeepsTheRest() {
        for (int k = 0; k < 2; k++) {
            BooleanGroebner x = Picture.filled(new int[] {8, 8}, 1);
            Due.is("clear", x.clear(k), 8);
            Due.is("the other stays", x.generators(1 - k), 8);
            Due.is("with its zeros", x.zeros(1 - k), 24);
            Due.is("position 0 is free", x.generate(k, Due.poly(1)), 1);
            Due.is("only the new one counts", x.zeros(k), 16);
            Due.is("at position 0", x.retract(k, 0), 0);
            Due.is("the kind stays", x.order(0), 1);
        }
    }

    // Promise 5: "-1 if kind is not 0 or 1"
    private static void orderTakesZeroAndOne() {
        int[] bad = {-1, -2, 2, 3, Due.LOWEST, Due.LOWEST + 1, Due.HIGHEST};
        for (int kind = 0; kind < 2; kind++) {
            BooleanGroebner x = new BooleanGroebner();
            Due.is("order(" + kind + ")", x.order(kind), 0);
            for (int other : bad) {
                Due.is("order(" + other + ")", x.order(other), -1);
                Due.is("the kind stays", x.leading(Due.poly(15, 16)), kind == 0 ? 15 : 16);
            }
            Due.is("the kind at the end", x.order(0), kind);
        }
    }

    // Promise 5: "otherwise answers the one before"
    private static void orderAnswersTheOneBefore() {
        BooleanGroebner x = new BooleanGroebner();
        Due.is("0 after 0", x.order(0), 0);
        Due.is("1 after 0", x.order(1), 0);
        Due.is("1 after 1", x.order(1), 1);
        Due.is("0 after 1", x.order(0), 1);
        Due.is("0 after 0 again", x.order(0), 0);
    }

    // Promise 6: "-1 if k is not good"
    private static void generatorsRefusesBadIdeals() {
        BooleanGroebner x = Picture.filled(new int[] {8, 3}, 0);
        for (int k : Due.BAD_IDEALS) {
            Due.is("generators(" + k + ")", x.generators(k), -1);
        }
        Due.is("generators(0)", x.generators(0), 8);
        Due.is("generators(1)", x.generators(1), 3);
    }

    // Promise 6: "How many generators an ideal has"
    private static void generatorsOfEachCount() {
        BooleanGroebner x = new BooleanGroebner();
        for (int count = 0; count <= 8; count++) {
            Due.is("generators(0)", x.generators(0), count);
            Due.is("generators(1)", x.generators(1), 0);
            x.generate(0, 0);
        }
        Due.is("after a refused one", x.generators(0), 8);
        for (int count = 8; count >= 0; count--) {
            Due.is("on the way down", x.generators(0), count);
            x.retract(0, 0);
        }
        Due.is("after a refused retract", x.generators(0), 0);
    }
}
