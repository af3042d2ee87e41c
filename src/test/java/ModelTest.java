/** Long mixed runs of calls in every radix, each answer held against the model's: all promises together. */
public final class ModelTest {
    private static final int RUNS_A_RADIX = 120;
    private static final int METHODS = 19;

    // With the filling before (96 at most) and the reading after (96), a run stays within 512 calls.
    private static final int CALLS = 300;

    // A fixed start and a fixed rule, so that every run of this test makes the same calls.
    private long seed = 20261115L;

    private RadixBig big;
    private Model model;
    private StringBuilder history;
    private boolean good;

    public static void main(String[] args) {
        ModelTest test = new ModelTest();
        for (int radix = -1; radix <= 40; radix++) {
            for (int run = 0; run < RUNS_A_RADIX; run++) {
                test.oneRun(radix);
            }
        }
        Scene.end();
    }

    private void oneRun(int radix) {
        big = new RadixBig(radix);
        model = new Model(radix);
        history = new StringBuilder("new RadixBig(" + radix + ")");
        good = true;
        for (int a = 0; a < 4; a++) {
            fill(a);
        }
        for (int k = 0; k < CALLS && good; k++) {
            oneCall();
        }
        for (int cell = 0; cell < 96 && good; cell++) {
            digit(cell / 24, cell % 24);
        }
    }

    private int below(int bound) {
        seed = seed * 6364136223846793005L + 1442695040888963407L;
        return (int) ((seed >>> 33) % bound);
    }

    private void fill(int a) {
        int length = below(25);
        int manner = below(4);
        for (int i = 0; i < length && good; i++) {
            int digit = manner == 0 ? model.radix() - 1 : manner == 1 ? below(2) : below(model.radix());
            due("set(" + a + ", " + i + ", " + digit + ")", big.set(a, i, digit), model.set(a, i, digit));
        }
    }

    private void oneCall() {
        int a = register();
        int b = register();
        switch (below(METHODS)) {
            case 0 -> due("radix()", big.radix(), model.radix());
            case 1 -> set(a);
            case 2 -> shift(a);
            case 3 -> feed(a);
            case 4 -> due("copy(" + a + ", " + b + ")", big.copy(a, b), model.copy(a, b));
            case 5 -> due("add(" + a + ", " + b + ")", big.add(a, b), model.add(a, b));
            case 6 -> due("subtract(" + a + ", " + b + ")", big.subtract(a, b), model.subtract(a, b));
            case 7 -> due("multiply(" + a + ", " + b + ")", big.multiply(a, b), model.multiply(a, b));
            case 8 -> due("multiplyLow(" + a + ", " + b + ")", big.multiplyLow(a, b), model.multiplyLow(a, b));
            case 9 -> divide(register(), a, b);
            case 10 -> due("root(" + a + ")", big.root(a), model.root(a));
            case 11 -> power(a);
            case 12 -> due("divisor(" + a + ", " + b + ")", big.divisor(a, b), model.divisor(a, b));
            case 13 -> digit(a, around(0, 23));
            case 14 -> due("length(" + a + ")", big.length(a), model.length(a));
            case 15 -> due("compare(" + a + ", " + b + ")", big.compare(a, b), model.compare(a, b));
            case 16 -> digitIn(a);
            case 17 -> lengthIn(a);
            default -> remainder(a);
        }
    }

    private int register() {
        return around(0, 3);
    }

    /** Mostly from least to greatest, now and then just outside or far out. */
    private int around(int least, int greatest) {
        switch (below(60)) {
            case 0: return least - 1;
            case 1: return greatest + 1;
            case 2: return below(2) == 0 ? Integer.MIN_VALUE : Integer.MAX_VALUE;
            case 3: return least;
            case 4: return greatest;
            default: return least + below(greatest - least + 1);
        }
    }

    private void set(int a) {
        int i = around(0, 23);
        int digit = around(0, model.radix() - 1);
        due("set(" + a + ", " + i + ", " + digit + ")", big.set(a, i, digit), model.set(a, i, digit));
    }

    private void shift(int a) {
        int places = below(3) == 0 ? around(-24, 24) : around(-4, 4);
        due("shift(" + a + ", " + places + ")", big.shift(a, places), model.shift(a, places));
    }

    private void feed(int a) {
        int digit = around(0, model.radix() - 1);
        due("feed(" + a + ", " + digit + ")", big.feed(a, digit), model.feed(a, digit));
    }

    private void divide(int q, int a, int b) {
        due("divide(" + q + ", " + a + ", " + b + ")", big.divide(q, a, b), model.divide(q, a, b));
    }

    private void power(int a) {
        int n = below(3) == 0 ? around(0, 100) : around(0, 5);
        due("power(" + a + ", " + n + ")", big.power(a, n), model.power(a, n));
    }

    private void digit(int a, int i) {
        due("digit(" + a + ", " + i + ")", big.digit(a, i), model.digit(a, i));
    }

    private void digitIn(int a) {
        int other = around(2, 36);
        int i = below(3) == 0 ? around(0, 127) : around(0, 30);
        due("digitIn(" + a + ", " + other + ", " + i + ")", big.digitIn(a, other, i), model.digitIn(a, other, i));
    }

    private void lengthIn(int a) {
        int other = around(2, 36);
        due("lengthIn(" + a + ", " + other + ")", big.lengthIn(a, other), model.lengthIn(a, other));
    }

    private void remainder(int a) {
        int m = below(3) == 0 ? around(1, 40) : around(1, 1000000);
        due("remainder(" + a + ", " + m + ")", big.remainder(a, m), model.remainder(a, m));
    }

    // A run stops at its first wrong answer: what follows from there tells nothing more.
    private void due(String call, int got, int want) {
        history.append("; ").append(call);
        good = got == want;
        Scene.check(good ? "" : history + " answered " + got + ", due is " + want, good);
    }
}
