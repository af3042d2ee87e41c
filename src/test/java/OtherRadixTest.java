import java.math.BigInteger;

/** Promises 18 to 20: digitIn, lengthIn, remainder. */
public final class OtherRadixTest {
    public static void main(String[] args) {
        digitIn();
        digitInEveryRadix();
        digitInRefuses();
        lengthIn();
        lengthInAroundPowers();
        lengthInRefuses();
        remainder();
        remainderRefuses();
        Scene.end();
    }

    private static void digitIn() {
        Scene s = new Scene(10, "0", "255", "1295", "256");
        s.due("digitIn(1, 16, 0)", s.big.digitIn(1, 16, 0), 15);
        s.due("digitIn(1, 16, 1)", s.big.digitIn(1, 16, 1), 15);
        s.due("digitIn(1, 16, 2)", s.big.digitIn(1, 16, 2), 0);
        s.due("digitIn(1, 10, 0)", s.big.digitIn(1, 10, 0), 5);
        s.due("digitIn(1, 10, 2)", s.big.digitIn(1, 10, 2), 2);
        s.due("digitIn(2, 36, 1)", s.big.digitIn(2, 36, 1), 35);
        s.due("digitIn(3, 2, 8)", s.big.digitIn(3, 2, 8), 1);
        s.due("digitIn(3, 2, 7)", s.big.digitIn(3, 2, 7), 0);
        s.due("digitIn(3, 2, 127)", s.big.digitIn(3, 2, 127), 0);
        s.due("digitIn(0, 2, 0)", s.big.digitIn(0, 2, 0), 0);
        s.holds("0", "255", "1295", "256");
    }

    private static void digitInEveryRadix() {
        String number = Scene.greatest(36);
        BigInteger value = new BigInteger(number, 36);
        for (int other = 2; other <= 36; other++) {
            Scene s = new Scene(36, number);
            BigInteger left = value;
            for (int i = 0; i <= 127; i++) {
                int want = left.mod(BigInteger.valueOf(other)).intValue();
                s.due("digitIn(0, " + other + ", " + i + ")", s.big.digitIn(0, other, i), want);
                left = left.divide(BigInteger.valueOf(other));
            }
            s.holds(number);
        }
    }

    private static void digitInRefuses() {
        Scene s = new Scene(10, "255", "1", "2", "3");
        for (int a : Scene.NOT_REGISTERS) {
            s.due("digitIn(" + a + ", 10, 0)", s.big.digitIn(a, 10, 0), -1);
            s.due("digitIn(" + a + ", 1, 128)", s.big.digitIn(a, 1, 128), -1);
        }
        int[] notRadices = {1, 0, -1, -10, 37, Integer.MIN_VALUE, Integer.MAX_VALUE};
        for (int other : notRadices) {
            s.due("digitIn(0, " + other + ", 0)", s.big.digitIn(0, other, 0), -2);
            s.due("digitIn(0, " + other + ", 128)", s.big.digitIn(0, other, 128), -2);
        }
        int[] notPlaces = {-1, 128, 129, Integer.MIN_VALUE, Integer.MAX_VALUE};
        for (int i : notPlaces) {
            s.due("digitIn(0, 2, " + i + ")", s.big.digitIn(0, 2, i), -3);
            s.due("digitIn(0, 36, " + i + ")", s.big.digitIn(0, 36, i), -3);
        }
        s.holds("255", "1", "2", "3");
    }

    private static void lengthIn() {
        Scene s = new Scene(10, "0", "1", "255", "256");
        for (int other = 2; other <= 36; other++) {
            s.due("lengthIn(0, " + other + ")", s.big.lengthIn(0, other), 0);
            s.due("lengthIn(1, " + other + ")", s.big.lengthIn(1, other), 1);
        }
        s.due("lengthIn(2, 16)", s.big.lengthIn(2, 16), 2);
        s.due("lengthIn(3, 16)", s.big.lengthIn(3, 16), 3);
        s.due("lengthIn(2, 2)", s.big.lengthIn(2, 2), 8);
        s.due("lengthIn(3, 2)", s.big.lengthIn(3, 2), 9);
        s.due("lengthIn(2, 10)", s.big.lengthIn(2, 10), 3);
        s.holds("0", "1", "255", "256");
    }

    private static void lengthInAroundPowers() {
        for (int other = 2; other <= 36; other++) {
            Scene greatest = new Scene(36, Scene.greatest(36));
            int longest = new BigInteger(Scene.greatest(36), 36).toString(other).length();
            greatest.due("lengthIn(0, " + other + ")", greatest.big.lengthIn(0, other), longest);

            for (int n = 1; n < longest; n += 7) {
                BigInteger power = BigInteger.valueOf(other).pow(n);
                Scene s = new Scene(36, power.toString(36), power.subtract(BigInteger.ONE).toString(36));
                s.due("lengthIn(0, " + other + ")", s.big.lengthIn(0, other), n + 1);
                s.due("lengthIn(1, " + other + ")", s.big.lengthIn(1, other), n);
            }
        }
    }

    private static void lengthInRefuses() {
        Scene s = new Scene(10, "255", "1", "2", "3");
        for (int a : Scene.NOT_REGISTERS) {
            s.due("lengthIn(" + a + ", 10)", s.big.lengthIn(a, 10), -1);
            s.due("lengthIn(" + a + ", 37)", s.big.lengthIn(a, 37), -1);
        }
        int[] notRadices = {1, 0, -1, -10, 37, Integer.MIN_VALUE, Integer.MAX_VALUE};
        for (int other : notRadices) {
            s.due("lengthIn(0, " + other + ")", s.big.lengthIn(0, other), -2);
        }
        s.holds("255", "1", "2", "3");
    }

    private static void remainder() {
        Scene s = new Scene(10, "0", "1234567", "1000000", "999999");
        s.due("remainder(0, 7)", s.big.remainder(0, 7), 0);
        s.due("remainder(1, 1)", s.big.remainder(1, 1), 0);
        s.due("remainder(1, 1000)", s.big.remainder(1, 1000), 567);
        s.due("remainder(1, 1000000)", s.big.remainder(1, 1000000), 234567);
        s.due("remainder(2, 1000000)", s.big.remainder(2, 1000000), 0);
        s.due("remainder(3, 1000000)", s.big.remainder(3, 1000000), 999999);
        s.holds("0", "1234567", "1000000", "999999");

        int[] moduli = {1, 2, 3, 35, 36, 37, 46656, 65521, 999983, 999999, 1000000};
        for (int radix = 2; radix <= 36; radix++) {
            BigInteger value = new BigInteger(Scene.greatest(radix), radix);
            Scene great = new Scene(radix, Scene.greatest(radix));
            for (int m : moduli) {
                int want = value.mod(BigInteger.valueOf(m)).intValue();
                great.due("remainder(0, " + m + ")", great.big.remainder(0, m), want);
            }
            great.holds(Scene.greatest(radix));
        }
    }

    private static void remainderRefuses() {
        Scene s = new Scene(10, "255", "1", "2", "3");
        for (int a : Scene.NOT_REGISTERS) {
            s.due("remainder(" + a + ", 10)", s.big.remainder(a, 10), -1);
            s.due("remainder(" + a + ", 0)", s.big.remainder(a, 0), -1);
        }
        int[] notModuli = {0, -1, -7, 1000001, Integer.MIN_VALUE, Integer.MAX_VALUE};
        for (int m : notModuli) {
            s.due("remainder(0, " + m + ")", s.big.remainder(0, m), -2);
        }
        s.holds("255", "1", "2", "3");
    }
}
