import java.math.BigInteger;

/** Promises 7 to 14: add, subtract, multiply, multiplyLow, divide, root, power, divisor. */
public final class ArithmeticTest {
    private static final int[] RADICES = {2, 3, 7, 10, 16, 35, 36};

    public static void main(String[] args) {
        add();
        addAtTheEnd();
        subtract();
        multiply();
        multiplyAtTheEnd();
        multiplyLow();
        divide();
        divideRefuses();
        root();
        rootAroundSquares();
        power();
        powerAtTheEnd();
        powerRefuses();
        divisor();
        longestEuclid();
        notRegisters();
        Scene.end();
    }

    private static void add() {
        Scene s = new Scene(10, "995", "17", "3");
        s.due("add(0, 1)", s.big.add(0, 1), 0);
        s.holds("1012", "17", "3");
        s.due("add(1, 1)", s.big.add(1, 1), 0);
        s.due("add(2, 3)", s.big.add(2, 3), 0);
        s.holds("1012", "34", "3");
        s.due("add(3, 0)", s.big.add(3, 0), 0);
        s.holds("1012", "34", "3", "1012");
    }

    private static void addAtTheEnd() {
        for (int radix : RADICES) {
            String greatest = Scene.greatest(radix);
            String below = minusOne(greatest, radix);
            Scene fits = new Scene(radix, below, "1");
            fits.due("add(0, 1)", fits.big.add(0, 1), 0);
            fits.holds(greatest, "1");
            fits.due("add(0, 1)", fits.big.add(0, 1), -2);
            fits.due("add(0, 0)", fits.big.add(0, 0), -2);
            fits.due("add(1, 0)", fits.big.add(1, 0), -2);
            fits.due("add(0, 2)", fits.big.add(0, 2), 0);
            fits.holds(greatest, "1");
        }
    }

    private static void subtract() {
        Scene s = new Scene(10, "1012", "17", "1013");
        s.due("subtract(0, 1)", s.big.subtract(0, 1), 0);
        s.holds("995", "17", "1013");
        s.due("subtract(0, 2)", s.big.subtract(0, 2), -2);
        s.due("subtract(3, 1)", s.big.subtract(3, 1), -2);
        s.due("subtract(2, 2)", s.big.subtract(2, 2), 0);
        s.due("subtract(1, 3)", s.big.subtract(1, 3), 0);
        s.holds("995", "17");

        for (int radix : RADICES) {
            Scene borrow = new Scene(radix, Scene.one(23), "1", Scene.one(23), Scene.greatest(radix));
            borrow.due("subtract(0, 1)", borrow.big.subtract(0, 1), 0);
            borrow.due("subtract(0, 2)", borrow.big.subtract(0, 2), -2);
            borrow.due("subtract(2, 0)", borrow.big.subtract(2, 0), 0);
            borrow.due("subtract(3, 3)", borrow.big.subtract(3, 3), 0);
            borrow.holds(minusOne(Scene.one(23), radix), "1", "1", "0");
        }
    }

    private static void multiply() {
        Scene s = new Scene(10, "987654321098", "123456789", "12");
        s.due("multiply(0, 1)", s.big.multiply(0, 1), 0);
        s.holds("121932631124734034322", "123456789", "12");
        s.due("multiply(2, 2)", s.big.multiply(2, 2), 0);
        s.due("multiply(1, 3)", s.big.multiply(1, 3), 0);
        s.holds("121932631124734034322", "0", "144");
        s.due("multiply(3, 0)", s.big.multiply(3, 0), 0);
        s.holds("121932631124734034322", "0", "144");
    }

    private static void multiplyAtTheEnd() {
        for (int radix : RADICES) {
            String greatest = Scene.greatest(radix);
            Scene s = new Scene(radix, Scene.one(12), Scene.one(12), greatest, "1");
            s.due("multiply(0, 1)", s.big.multiply(0, 1), -2);
            s.due("multiply(0, 0)", s.big.multiply(0, 0), -2);
            s.due("multiply(2, 2)", s.big.multiply(2, 2), -2);
            s.due("multiply(2, 3)", s.big.multiply(2, 3), 0);
            s.holds(Scene.one(12), Scene.one(12), greatest, "1");
            s.due("subtract(0, 3)", s.big.subtract(0, 3), 0);
            s.due("multiply(0, 1)", s.big.multiply(0, 1), 0);
            s.holds(minusOne(Scene.one(12), radix) + "0".repeat(12), Scene.one(12), greatest, "1");
        }
    }

    private static void multiplyLow() {
        Scene s = new Scene(10, "123456789012345678901234", "11", "5");
        s.due("multiplyLow(1, 2)", s.big.multiplyLow(1, 2), 0);
        s.due("multiplyLow(0, 2)", s.big.multiplyLow(0, 2), 0);
        s.holds("617283945061728394506170", "55", "5");
        s.due("multiplyLow(0, 2)", s.big.multiplyLow(0, 2), 1);
        s.holds("86419725308641972530850", "55", "5");
        s.due("multiplyLow(0, 3)", s.big.multiplyLow(0, 3), 0);
        s.holds("0", "55", "5");

        for (int radix : RADICES) {
            Scene end = new Scene(radix, Scene.greatest(radix), Scene.one(12), Scene.one(11));
            end.due("multiplyLow(0, 0)", end.big.multiplyLow(0, 0), 1);
            end.due("multiplyLow(2, 1)", end.big.multiplyLow(2, 1), 0);
            end.due("multiplyLow(1, 1)", end.big.multiplyLow(1, 1), 1);
            end.holds("1", "0", Scene.one(23));
        }
    }

    private static void divide() {
        Scene s = new Scene(10, "1000", "7", "5", "99");
        s.due("divide(3, 0, 1)", s.big.divide(3, 0, 1), 0);
        s.holds("6", "7", "5", "142");
        s.due("divide(2, 0, 1)", s.big.divide(2, 0, 1), 0);
        s.holds("6", "7", "0", "142");
        s.due("divide(0, 2, 3)", s.big.divide(0, 2, 3), 0);
        s.holds("0", "7", "0", "142");

        for (int radix : RADICES) {
            String greatest = Scene.greatest(radix);
            Scene byOne = new Scene(radix, greatest, "1", greatest);
            byOne.due("divide(2, 0, 1)", byOne.big.divide(2, 0, 1), 0);
            byOne.holds("0", "1", greatest);

            String below = minusOne(greatest, radix);
            Scene byBelow = new Scene(radix, "0", greatest, "0", below);
            byBelow.due("divide(0, 1, 3)", byBelow.big.divide(0, 1, 3), 0);
            byBelow.holds("1", "1", "0", below);

            Scene byGreater = new Scene(radix, below, greatest, "1");
            byGreater.due("divide(2, 0, 1)", byGreater.big.divide(2, 0, 1), 0);
            byGreater.holds(below, greatest, "0");
        }
    }

    private static void divideRefuses() {
        Scene s = new Scene(10, "1000", "7", "0", "99");
        s.due("divide(0, 0, 1)", s.big.divide(0, 0, 1), -2);
        s.due("divide(0, 1, 0)", s.big.divide(0, 1, 0), -2);
        s.due("divide(1, 0, 0)", s.big.divide(1, 0, 0), -2);
        s.due("divide(0, 0, 0)", s.big.divide(0, 0, 0), -2);
        s.due("divide(2, 2, 2)", s.big.divide(2, 2, 2), -2);
        s.due("divide(0, 2, 2)", s.big.divide(0, 2, 2), -2);
        s.due("divide(3, 0, 2)", s.big.divide(3, 0, 2), -3);
        for (int bad : Scene.NOT_REGISTERS) {
            s.due("divide(" + bad + ", 0, 1)", s.big.divide(bad, 0, 1), -1);
            s.due("divide(0, " + bad + ", 1)", s.big.divide(0, bad, 1), -1);
            s.due("divide(0, 1, " + bad + ")", s.big.divide(0, 1, bad), -1);
            s.due("divide(0, 0, " + bad + ")", s.big.divide(0, 0, bad), -1);
            s.due("divide(" + bad + ", 2, 2)", s.big.divide(bad, 2, 2), -1);
        }
        s.holds("1000", "7", "0", "99");
    }

    private static void root() {
        Scene s = new Scene(10, "0", "1", "24", "25");
        for (int a = 0; a < 4; a++) {
            s.due("root(" + a + ")", s.big.root(a), 0);
        }
        s.holds("0", "1", "4", "5");

        Scene more = new Scene(10, "2", "3", "4", "15241578750190521");
        for (int a = 0; a < 4; a++) {
            more.due("root(" + a + ")", more.big.root(a), 0);
        }
        more.holds("1", "1", "2", "123456789");
    }

    private static void rootAroundSquares() {
        for (int radix : RADICES) {
            String whole = minusOne(Scene.one(12), radix);
            BigInteger number = new BigInteger(whole, radix);
            String square = number.multiply(number).toString(radix);
            Scene s = new Scene(radix, Scene.greatest(radix), square, minusOne(square, radix), Scene.one(22));
            for (int a = 0; a < 4; a++) {
                s.due("root(" + a + ")", s.big.root(a), 0);
            }
            s.holds(whole, whole, minusOne(whole, radix), Scene.one(11));
        }
    }

    private static void power() {
        Scene s = new Scene(10, "0", "1", "7", "10");
        s.due("power(2, 1)", s.big.power(2, 1), 0);
        s.due("power(0, 100)", s.big.power(0, 100), 0);
        s.due("power(1, 100)", s.big.power(1, 100), 0);
        s.holds("0", "1", "7", "10");
        s.due("power(2, 13)", s.big.power(2, 13), 0);
        s.due("power(3, 23)", s.big.power(3, 23), 0);
        s.holds("0", "1", "96889010407", Scene.one(23));

        Scene zero = new Scene(10, "0", "1", "7", Scene.greatest(10));
        for (int a = 0; a < 4; a++) {
            zero.due("power(" + a + ", 0)", zero.big.power(a, 0), 0);
        }
        zero.holds("1", "1", "1", "1");

        // 2^100 is below 36^24, so the greatest exponent is reached.
        Scene hundred = new Scene(36, "2", "3");
        hundred.due("power(0, 100)", hundred.big.power(0, 100), 0);
        hundred.due("power(1, 100)", hundred.big.power(1, 100), -3);
        hundred.holds(BigInteger.TWO.pow(100).toString(36), "3");
    }

    private static void powerAtTheEnd() {
        for (int radix : RADICES) {
            Scene s = new Scene(radix, "10", Scene.one(12), Scene.greatest(radix), minusOne(Scene.one(12), radix));
            s.due("power(0, 24)", s.big.power(0, 24), -3);
            s.due("power(0, 100)", s.big.power(0, 100), -3);
            s.due("power(1, 2)", s.big.power(1, 2), -3);
            s.due("power(2, 2)", s.big.power(2, 2), -3);
            s.due("power(2, 1)", s.big.power(2, 1), 0);
            s.holds("10", Scene.one(12), Scene.greatest(radix), minusOne(Scene.one(12), radix));
            s.due("power(0, 23)", s.big.power(0, 23), 0);
            s.due("power(3, 2)", s.big.power(3, 2), 0);
            BigInteger number = new BigInteger(minusOne(Scene.one(12), radix), radix);
            s.holds(Scene.one(23), Scene.one(12), Scene.greatest(radix), number.pow(2).toString(radix));
        }
    }

    private static void powerRefuses() {
        Scene s = new Scene(10, "1", "2", Scene.greatest(10), "0");
        for (int a : Scene.NOT_REGISTERS) {
            s.due("power(" + a + ", 1)", s.big.power(a, 1), -1);
            s.due("power(" + a + ", 101)", s.big.power(a, 101), -1);
        }
        int[] notExponents = {-1, 101, 102, Integer.MIN_VALUE, Integer.MAX_VALUE};
        for (int n : notExponents) {
            for (int a = 0; a < 4; a++) {
                s.due("power(" + a + ", " + n + ")", s.big.power(a, n), -2);
            }
        }
        s.holds("1", "2", Scene.greatest(10), "0");
    }

    private static void divisor() {
        Scene s = new Scene(10, "84", "120", "0", "35");
        s.due("divisor(0, 1)", s.big.divisor(0, 1), 0);
        s.holds("12", "120", "0", "35");
        s.due("divisor(1, 2)", s.big.divisor(1, 2), 0);
        s.due("divisor(2, 3)", s.big.divisor(2, 3), 0);
        s.holds("12", "120", "35", "35");
        s.due("divisor(3, 0)", s.big.divisor(3, 0), 0);
        s.due("divisor(1, 1)", s.big.divisor(1, 1), 0);
        s.holds("12", "120", "35", "1");

        Scene zero = new Scene(10, "0", "0", Scene.greatest(10), "3");
        zero.due("divisor(0, 1)", zero.big.divisor(0, 1), 0);
        zero.due("divisor(1, 1)", zero.big.divisor(1, 1), 0);
        zero.due("divisor(3, 2)", zero.big.divisor(3, 2), 0);
        zero.holds("0", "0", Scene.greatest(10), "3");
        zero.due("divisor(2, 0)", zero.big.divisor(2, 0), 0);
        zero.holds("0", "0", Scene.greatest(10), "3");
    }

    /** Neighbours among Fibonacci's numbers need the most steps for their size. */
    private static void longestEuclid() {
        for (int radix : RADICES) {
            BigInteger end = BigInteger.valueOf(radix).pow(24);
            BigInteger small = BigInteger.ONE;
            BigInteger great = BigInteger.ONE;
            while (small.add(great).compareTo(end) < 0) {
                BigInteger next = small.add(great);
                small = great;
                great = next;
            }
            String less = small.toString(radix);
            String more = great.toString(radix);
            Scene s = new Scene(radix, more, less, less, more);
            s.due("divisor(0, 1)", s.big.divisor(0, 1), 0);
            s.due("divisor(2, 3)", s.big.divisor(2, 3), 0);
            s.holds("1", less, "1", more);
        }
    }

    private static void notRegisters() {
        Scene s = new Scene(10, "9", "8", "0", "7");
        for (int bad : Scene.NOT_REGISTERS) {
            s.due("add(" + bad + ", 0)", s.big.add(bad, 0), -1);
            s.due("add(0, " + bad + ")", s.big.add(0, bad), -1);
            s.due("subtract(" + bad + ", 0)", s.big.subtract(bad, 0), -1);
            s.due("subtract(0, " + bad + ")", s.big.subtract(0, bad), -1);
            s.due("multiply(" + bad + ", 0)", s.big.multiply(bad, 0), -1);
            s.due("multiply(0, " + bad + ")", s.big.multiply(0, bad), -1);
            s.due("multiplyLow(" + bad + ", 0)", s.big.multiplyLow(bad, 0), -1);
            s.due("multiplyLow(0, " + bad + ")", s.big.multiplyLow(0, bad), -1);
            s.due("divisor(" + bad + ", 0)", s.big.divisor(bad, 0), -1);
            s.due("divisor(0, " + bad + ")", s.big.divisor(0, bad), -1);
            s.due("root(" + bad + ")", s.big.root(bad), -1);
        }
        s.holds("9", "8", "0", "7");
    }

    private static String minusOne(String number, int radix) {
        return new BigInteger(number, radix).subtract(BigInteger.ONE).toString(radix);
    }
}
