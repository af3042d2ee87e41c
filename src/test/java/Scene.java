import java.math.BigInteger;

/** A fresh object with numbers in its registers, and the checks that a test makes on it. */
final class Scene {
    static final int REGISTERS = 4;
    static final int PLACES = 24;
    static final int[] NOT_REGISTERS = {-1, 4, 5, Integer.MIN_VALUE, Integer.MAX_VALUE};

    // The document promises nothing after the 512th call, so a test that goes further is a wrong test.
    private static final int CALLS_PROMISED = 512;

    private static int checks = 0;
    private static int wrong = 0;

    final RadixBig big;
    private final int radix;
    private final String opening;
    private int calls = 0;

    /** The numbers are written in the radix; registers without one stay 0. */
    Scene(int radix, String... numbers) {
        this.big = new RadixBig(radix);
        this.radix = radix;
        this.opening = "radix " + radix + ", " + String.join(" ", numbers);
        for (int a = 0; a < numbers.length; a++) {
            put(a, new BigInteger(numbers[a], radix));
        }
    }

    private void put(int a, BigInteger number) {
        BigInteger left = number;
        for (int i = 0; left.signum() != 0; i++) {
            due("set(" + a + ", " + i + ", ..)", big.set(a, i, left.mod(BigInteger.valueOf(radix)).intValue()), 0);
            left = left.divide(BigInteger.valueOf(radix));
        }
    }

    /** Checks one answer; got is the answer of one call. */
    Scene due(String call, int got, int want) {
        calls++;
        if (calls > CALLS_PROMISED) {
            fail(opening + ": the test makes more than " + CALLS_PROMISED + " calls");
        }
        checks++;
        if (got != want) {
            fail(opening + ": " + call + " answered " + got + ", due is " + want);
        }
        return this;
    }

    /** Checks every digit of every register; registers without a number are due to be 0. */
    Scene holds(String... numbers) {
        for (int a = 0; a < REGISTERS; a++) {
            String number = a < numbers.length ? numbers[a] : "0";
            BigInteger left = new BigInteger(number, radix);
            for (int i = 0; i < PLACES; i++) {
                int want = left.mod(BigInteger.valueOf(radix)).intValue();
                due("digit(" + a + ", " + i + ") where " + number + " is due", big.digit(a, i), want);
                left = left.divide(BigInteger.valueOf(radix));
            }
        }
        return this;
    }

    static void check(String what, boolean holds) {
        checks++;
        if (!holds) {
            fail(what);
        }
    }

    private static void fail(String what) {
        wrong++;
        System.out.println(what);
    }

    /** R^24 - 1, the greatest number of a register. */
    static String greatest(int radix) {
        return BigInteger.valueOf(radix).pow(PLACES).subtract(BigInteger.ONE).toString(radix);
    }

    /** R^n. */
    static String one(int zeros) {
        return "1" + "0".repeat(zeros);
    }

    static void end() {
        System.out.println(wrong == 0 ? checks + " checks are as due" : wrong + " of " + checks + " checks are not as due");
        if (wrong != 0 || checks == 0) {
            System.exit(1);
        }
    }
}
