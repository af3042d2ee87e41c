import java.math.BigInteger;

/** An object with numbers in its registers, and the checks that a test makes on it. */
final class Scene {
    static final int REGISTERS = 4;
    static final int PLACES = 24;
    static final int[] NOT_REGISTERS = {-1, 4, 5, Integer.MIN_VALUE, Integer.MAX_VALUE};
    static final int[] NOT_PLACES = {-1, 24, 25, Integer.MIN_VALUE, Integer.MAX_VALUE};

    // The document promises nothing after the 512th call, so a test that goes further is a wrong test.
    private static final int CALLS_PROMISED = 512;

    // One fault can show in millions of checks; all are counted, but not all are told.
    private static final int TOLD = 200;

    private static int checks = 0;
    private static int wrong = 0;

    final RadixBig big;
    private final int radix;
    private String opening;
    private int calls = 0;

    /** The numbers are written in the radix; registers without one stay 0. */
    Scene(int radix, String... numbers) {
        this(radix);
        fill(numbers);
    }

    private Scene(int radix) {
        this.big = new RadixBig(radix);
        this.radix = radix;
        this.opening = "radix " + radix + ",";
    }

    /** A scene whose object has worked before: nothing that this has left inside it may show. */
    static Scene used(int radix, String... numbers) {
        Scene scene = new Scene(radix);
        scene.work();
        scene.fill(numbers);
        return scene;
    }

    private void fill(String... numbers) {
        opening += " " + String.join(" ", numbers);
        for (int a = 0; a < numbers.length; a++) {
            put(a, new BigInteger(numbers[a], radix));
        }
    }

    // Great numbers go through the methods, then the registers become 0 again.
    private void work() {
        for (int i = 0; i < PLACES; i++) {
            due("feed(0, R - 1)", big.feed(0, radix - 1), 0);
        }
        due("copy(1, 0)", big.copy(1, 0), 0);
        due("copy(2, 0)", big.copy(2, 0), 0);
        due("root(2)", big.root(2), 0);
        due("multiplyLow(2, 2)", big.multiplyLow(2, 2), 0);
        due("shift(1, -1)", big.shift(1, -1), 1);
        due("divide(2, 1, 0)", big.divide(2, 1, 0), 0);
        due("copy(1, 3)", big.copy(1, 3), 0);
        due("multiply(0, 0)", big.multiply(0, 0), -2);
        due("compare(0, 0)", big.compare(0, 0), 0);
        // Digit by digit, so that the last method to work with whole numbers worked with the greatest.
        for (int i = 0; i < PLACES; i++) {
            due("set(0, " + i + ", 0)", big.set(0, i, 0), radix - 1);
        }
    }

    /** What the scene's failures are told under. */
    Scene about(String sentence) {
        opening = sentence + ": " + opening;
        return this;
    }

    private void put(int a, BigInteger number) {
        BigInteger left = number;
        for (int i = 0; left.signum() != 0; i++) {
            due("set(" + a + ", " + i + ", ..)", big.set(a, i, left.mod(BigInteger.valueOf(radix)).intValue()), 0);
            left = left.divide(BigInteger.valueOf(radix));
        }
    }

    /** Checks one answer; got is the answer of one call. */
    Scene due(String call, int got, int want) {
        countCalls(1);
        checks++;
        if (got != want) {
            fail(opening + ": " + call + " answered " + got + ", due is " + want);
        }
        return this;
    }

    /** Checks every digit of every register; registers without a number are due to be 0. */
    Scene holds(String... numbers) {
        for (int a = 0; a < REGISTERS; a++) {
            String number = a < numbers.length ? numbers[a] : "0";
            String want = "0".repeat(PLACES - number.length()) + number;
            String got = digitsOf(a);
            countCalls(PLACES);
            checks++;
            if (!got.equals(want)) {
                fail(opening + ": register " + a + " holds " + got + ", due is " + want);
            }
        }
        return this;
    }

    /** All 24 digits, the first one first; what is no digit of the radix shows as '?'. */
    private String digitsOf(int a) {
        StringBuilder text = new StringBuilder();
        for (int i = PLACES - 1; i >= 0; i--) {
            int digit = big.digit(a, i);
            text.append(digit >= 0 && digit < radix ? Character.forDigit(digit, radix) : '?');
        }
        return text.toString();
    }

    private void countCalls(int more) {
        calls += more;
        if (calls > CALLS_PROMISED) {
            fail(opening + ": the test makes more than " + CALLS_PROMISED + " calls");
        }
    }

    Scene holdsNumbers(BigInteger... numbers) {
        return holds(texts(radix, numbers));
    }

    static String[] texts(int radix, BigInteger... numbers) {
        String[] texts = new String[numbers.length];
        for (int a = 0; a < numbers.length; a++) {
            texts[a] = numbers[a].toString(radix);
        }
        return texts;
    }

    static void check(String what, boolean holds) {
        checks++;
        if (!holds) {
            fail(what);
        }
    }

    private static void fail(String what) {
        wrong++;
        if (wrong <= TOLD) {
            System.out.println(what);
        }
    }

    /** R^24 - 1, the greatest number of a register. */
    static String greatest(int radix) {
        return BigInteger.valueOf(radix).pow(PLACES).subtract(BigInteger.ONE).toString(radix);
    }

    /** R^n. */
    static String one(int zeros) {
        return "1" + "0".repeat(zeros);
    }

    static void end() {
        System.out.println(wrong == 0 ? checks + " checks are as due" : wrong + " of " + checks + " checks are not as due");
        if (wrong != 0 || checks == 0) {
            System.exit(1);
        }
    }
}
