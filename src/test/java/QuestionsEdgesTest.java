import java.math.BigInteger;

/** The boundaries of promises 15 to 20: digit .. remainder; a method here is one sentence of the document. */
public final class QuestionsEdgesTest {
    private static final BigInteger ZERO = BigInteger.ZERO;
    private static final BigInteger ONE = BigInteger.ONE;
    private static final int LAST_PLACE_IN = 127;
    private static final int GREATEST_MODULUS = 1000000;
    private static final int[] NOT_OTHERS = {1, 0, -1, -2, 37, 38, Edge.MIN, Edge.MAX};
    private static final int[] NOT_PLACES_IN = {-1, 128, 129, Edge.MIN, Edge.MAX};
    private static final int[] NOT_MODULI = {0, -1, 1000001, 1000002, Edge.MIN, Edge.MAX};

    public static void main(String[] args) {
        for (int radix = 2; radix <= 36; radix++) {
            digit(radix);
            length(radix);
            compare(radix);
            digitIn(radix);
            lengthIn(radix);
            remainder(radix);
        }
        Scene.end();
    }

    private static void digit(int radix) {
        digitRegister(radix);
        digitPlace(radix);
        digitOrder(radix);
    }

    private static void length(int radix) {
        lengthRegister(radix);
        lengthWithoutLeadingZeros(radix);
    }

    private static void compare(int radix) {
        compareRegisters(radix);
        compareTheSame(radix);
        compareNeighbours(radix);
        compareFirstDigitDecides(radix);
    }

    private static void digitIn(int radix) {
        digitInRegister(radix);
        digitInOther(radix);
        digitInPlace(radix);
        digitInFirstDigit(radix);
        digitInOrder(radix);
    }

    private static void lengthIn(int radix) {
        lengthInRegister(radix);
        lengthInOther(radix);
        lengthInOfZero(radix);
        lengthInAroundPowers(radix);
        lengthInOrder(radix);
    }

    private static void remainder(int radix) {
        remainderRegister(radix);
        remainderModulus(radix);
        remainderAroundTheModulus(radix);
        remainderOrder(radix);
    }

    private static void digitRegister(int radix) {
        String sentence = "Promise 15, digit: -1 if a is not good";
        new Edge(sentence, radix, "10", "0", "0", "1").answered(1, "digit", 0, 1).answered(1, "digit", 3, 0);
        for (int a : Scene.NOT_REGISTERS) {
            Edge.among(sentence, radix).refused(-1, "digit", a, 0).refused(-1, "digit", a, 23);
        }
    }

    private static void digitPlace(int radix) {
        String sentence = "Promise 15, digit: -2 if i is not in 0 .. 23";
        String greatest = Scene.greatest(radix);
        Edge edge = new Edge(sentence, radix, greatest, Scene.one(23), greatest, "1");
        edge.answered(0, "digit", 1, 0).answered(1, "digit", 1, 23);
        edge.answered(1, "digit", 3, 0).answered(0, "digit", 3, 23);
        edge.answered(radix - 1, "digit", 0, 0).answered(radix - 1, "digit", 0, 23);
        for (int i : Scene.NOT_PLACES) {
            for (int a = 0; a < Scene.REGISTERS; a++) {
                edge.refused(-2, "digit", a, i);
            }
        }
    }

    private static void digitOrder(int radix) {
        Edge edge = Edge.among("Terms, digit: the tests are made in the order named", radix);
        edge.refused(-1, "digit", 4, 24).refused(-1, "digit", -1, -1).refused(-1, "digit", Edge.MAX, Edge.MIN);
    }

    private static void lengthRegister(int radix) {
        String sentence = "Promise 16, length: -1 if a is not good";
        new Edge(sentence, radix, "10", "0", "0", "1").answered(2, "length", 0).answered(1, "length", 3);
        for (int a : Scene.NOT_REGISTERS) {
            Edge.among(sentence, radix).refused(-1, "length", a);
        }
    }

    private static void lengthWithoutLeadingZeros(int radix) {
        String sentence = "Promise 16, length: how many digits a has without leading zeros (0 for the number 0)";
        String greatest = Scene.greatest(radix);
        new Edge(sentence, radix, greatest, "0", greatest).answered(0, "length", 1);
        for (int n = 0; n < Scene.PLACES; n++) {
            BigInteger power = Edge.power(radix, n);
            Edge edge = Edge.of(sentence, radix, Edge.most(radix), power, power.subtract(ONE), Edge.most(radix));
            edge.answered(n + 1, "length", 1).answered(n, "length", 2);
            edge.answered(24, "length", 0).answered(24, "length", 3);
        }
    }

    private static void compareRegisters(int radix) {
        String sentence = "Promise 17, compare: -1 if a or b is not good";
        Edge edge = new Edge(sentence, radix, "10", "0", "0", "1");
        edge.answered(1, "compare", 0, 3).answered(2, "compare", 3, 0);
        for (int bad : Scene.NOT_REGISTERS) {
            for (int good = 0; good < Scene.REGISTERS; good++) {
                edge.refused(-1, "compare", bad, good).refused(-1, "compare", good, bad);
            }
            edge.refused(-1, "compare", bad, bad);
        }
        edge.refused(-1, "compare", 4, -1).refused(-1, "compare", -1, 4);
    }

    private static void compareTheSame(int radix) {
        String sentence = "Promise 17, compare: 0 if a and b are the same number";
        Edge.of(sentence, radix, ONE, ZERO, ZERO).answered(0, "compare", 1, 2).answered(0, "compare", 1, 1);
        for (BigInteger number : Edge.sizes(radix)) {
            Edge edge = Edge.of(sentence, radix, ONE, number, number);
            edge.answered(0, "compare", 1, 2).answered(0, "compare", 2, 1).answered(0, "compare", 2, 2);
        }
    }

    private static void compareNeighbours(int radix) {
        String sentence = "Promise 17, compare: 1 if a is greater, 2 if b is greater (by 1)";
        for (BigInteger number : Edge.sizes(radix)) {
            Edge edge = Edge.of(sentence, radix, ONE, number, number.subtract(ONE));
            edge.answered(1, "compare", 1, 2).answered(2, "compare", 2, 1);
        }
    }

    private static void compareFirstDigitDecides(int radix) {
        String sentence = "Promise 17, compare: 1 if a is greater, 2 if b is greater (the first digit decides)";
        for (int i = 0; i < Scene.PLACES; i++) {
            BigInteger power = Edge.power(radix, i);
            Edge edge = Edge.of(sentence, radix, power, power.subtract(ONE), ZERO, Edge.most(radix));
            edge.answered(1, "compare", 0, 1).answered(2, "compare", 1, 0);
            edge.answered(1, "compare", 0, 2).answered(2, "compare", 2, 0);
            edge.answered(1, "compare", 3, 1).answered(2, "compare", 1, 3);
        }
    }

    private static void digitInRegister(int radix) {
        String sentence = "Promise 18, digitIn: -1 if a is not good";
        new Edge(sentence, radix, "1", "0", "0", "1").answered(1, "digitIn", 0, 10, 0).answered(1, "digitIn", 3, 10, 0);
        for (int a : Scene.NOT_REGISTERS) {
            Edge.among(sentence, radix).refused(-1, "digitIn", a, 10, 0);
        }
    }

    private static void digitInOther(int radix) {
        String sentence = "Promise 18, digitIn: -2 if other is not in 2 .. 36";
        BigInteger number = BigInteger.valueOf(36 * 35 + 34);
        Edge edge = Edge.of(sentence, radix, ZERO, number);
        edge.answered(0, "digitIn", 1, 2, 0).answered(1, "digitIn", 1, 2, 1);
        edge.answered(34, "digitIn", 1, 36, 0).answered(35, "digitIn", 1, 36, 1);
        for (int other : NOT_OTHERS) {
            for (int a = 0; a < Scene.REGISTERS; a++) {
                Edge.among(sentence, radix).refused(-2, "digitIn", a, other, 0);
            }
        }
    }

    private static void digitInPlace(int radix) {
        String sentence = "Promise 18, digitIn: -3 if i is not in 0 .. 127";
        for (int other = 2; other <= 36; other += 17) {
            BigInteger most = Edge.most(radix);
            Edge edge = Edge.of(sentence, radix, ONE, most, ZERO, most);
            int last = most.mod(BigInteger.valueOf(other)).intValue();
            edge.answered(last, "digitIn", 1, other, 0).answered(0, "digitIn", 1, other, LAST_PLACE_IN);
            edge.answered(0, "digitIn", 2, other, 0).answered(0, "digitIn", 2, other, LAST_PLACE_IN);
            for (int i : NOT_PLACES_IN) {
                edge.refused(-3, "digitIn", 1, other, i).refused(-3, "digitIn", 3, other, i);
            }
        }
    }

    private static void digitInFirstDigit(int radix) {
        String sentence = "Promise 18, digitIn: digit i (0 for the last one) of the number written in another radix";
        BigInteger most = Edge.most(radix);
        for (int other = 2; other <= 36; other++) {
            String text = most.toString(other);
            int first = Character.digit(text.charAt(0), other);
            Edge edge = Edge.of(sentence, radix, ONE, most, ONE);
            edge.answered(first, "digitIn", 1, other, text.length() - 1);
            edge.answered(0, "digitIn", 1, other, text.length());
            edge.answered(1, "digitIn", 2, other, 0).answered(0, "digitIn", 2, other, 1);
        }
        Edge own = Edge.of(sentence, radix, most);
        own.answered(radix - 1, "digitIn", 0, radix, 23).answered(0, "digitIn", 0, radix, 24);
    }

    private static void digitInOrder(int radix) {
        Edge edge = Edge.among("Terms, digitIn: the tests are made in the order named", radix);
        edge.refused(-1, "digitIn", 4, 37, 0).refused(-1, "digitIn", -1, 1, 0);
        edge.refused(-1, "digitIn", 4, 10, 128).refused(-1, "digitIn", -1, 10, -1);
        edge.refused(-1, "digitIn", 4, 37, 128).refused(-1, "digitIn", -1, 1, -1);
        edge.refused(-2, "digitIn", 0, 37, 128).refused(-2, "digitIn", 3, 1, -1).refused(-2, "digitIn", 0, 0, 128);
    }

    private static void lengthInRegister(int radix) {
        String sentence = "Promise 19, lengthIn: -1 if a is not good";
        new Edge(sentence, radix, "1", "0", "0", "1").answered(1, "lengthIn", 0, 10).answered(1, "lengthIn", 3, 10);
        for (int a : Scene.NOT_REGISTERS) {
            Edge.among(sentence, radix).refused(-1, "lengthIn", a, 10);
        }
    }

    private static void lengthInOther(int radix) {
        String sentence = "Promise 19, lengthIn: -2 if other is not in 2 .. 36";
        BigInteger most = Edge.most(radix);
        Edge edge = Edge.of(sentence, radix, ONE, most, ZERO, ONE);
        edge.answered(most.bitLength(), "lengthIn", 1, 2);
        edge.answered(most.toString(36).length(), "lengthIn", 1, 36);
        for (int other : NOT_OTHERS) {
            for (int a = 0; a < Scene.REGISTERS; a++) {
                edge.refused(-2, "lengthIn", a, other);
            }
        }
    }

    private static void lengthInOfZero(int radix) {
        Edge edge = Edge.of("Promise 19, lengthIn: 0 for the number 0", radix, ONE, ZERO, ONE);
        for (int other = 2; other <= 36; other++) {
            edge.answered(0, "lengthIn", 1, other).answered(1, "lengthIn", 2, other);
        }
    }

    private static void lengthInAroundPowers(int radix) {
        String sentence = "Promise 19, lengthIn: how many digits the number has in another radix, without leading zeros";
        BigInteger most = Edge.most(radix);
        for (int other = 2; other <= 36; other++) {
            int longest = most.toString(other).length();
            Edge.of(sentence, radix, most).answered(longest, "lengthIn", 0, other);
            int[] exponents = {1, 2, longest / 2, longest - 1};
            for (int n : exponents) {
                BigInteger power = Edge.power(other, n);
                Edge edge = Edge.of(sentence, radix, most, power, power.subtract(ONE));
                edge.answered(n + 1, "lengthIn", 1, other).answered(n, "lengthIn", 2, other);
            }
        }
    }

    private static void lengthInOrder(int radix) {
        Edge edge = Edge.among("Terms, lengthIn: the tests are made in the order named", radix);
        edge.refused(-1, "lengthIn", 4, 37).refused(-1, "lengthIn", -1, 1).refused(-1, "lengthIn", Edge.MAX, Edge.MIN);
    }

    private static void remainderRegister(int radix) {
        String sentence = "Promise 20, remainder: -1 if a is not good";
        new Edge(sentence, radix, "1", "0", "0", "1").answered(1, "remainder", 0, 7).answered(1, "remainder", 3, 7);
        for (int a : Scene.NOT_REGISTERS) {
            Edge.among(sentence, radix).refused(-1, "remainder", a, 7);
        }
    }

    private static void remainderModulus(int radix) {
        String sentence = "Promise 20, remainder: -2 if m is not in 1 .. 1000000";
        BigInteger most = Edge.most(radix);
        Edge edge = Edge.of(sentence, radix, ONE, most, ZERO, ONE);
        int rest = most.mod(BigInteger.valueOf(GREATEST_MODULUS)).intValue();
        edge.answered(0, "remainder", 1, 1).answered(rest, "remainder", 1, GREATEST_MODULUS);
        edge.answered(0, "remainder", 2, 1).answered(0, "remainder", 2, GREATEST_MODULUS);
        for (int m : NOT_MODULI) {
            for (int a = 0; a < Scene.REGISTERS; a++) {
                edge.refused(-2, "remainder", a, m);
            }
        }
    }

    private static void remainderAroundTheModulus(int radix) {
        String sentence = "Promise 20, remainder: the remainder of a by m";
        int[] moduli = {1, 2, radix - 1, radix, radix + 1, 999983, 999999, GREATEST_MODULUS};
        for (int m : moduli) {
            BigInteger modulus = BigInteger.valueOf(m);
            BigInteger multiple = Edge.most(radix).divide(modulus).multiply(modulus);
            Edge edge = Edge.of(sentence, radix, modulus, modulus.subtract(ONE), multiple, multiple.subtract(ONE));
            edge.answered(0, "remainder", 0, m).answered(m - 1, "remainder", 1, m);
            edge.answered(0, "remainder", 2, m).answered(m - 1, "remainder", 3, m);
        }
    }

    private static void remainderOrder(int radix) {
        Edge edge = Edge.among("Terms, remainder: the tests are made in the order named", radix);
        edge.refused(-1, "remainder", 4, 0).refused(-1, "remainder", -1, 1000001);
        edge.refused(-1, "remainder", Edge.MAX, Edge.MIN);
    }
}
