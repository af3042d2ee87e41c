import java.math.BigInteger;

/** The document's promises said again over the Java library's own whole numbers. */
final class Model {
    private final int radix;
    private final BigInteger base;
    private final BigInteger end;
    private final BigInteger[] registers = new BigInteger[4];

    Model(int radix) {
        this.radix = Math.max(2, Math.min(36, radix));
        this.base = BigInteger.valueOf(this.radix);
        this.end = base.pow(24);
        for (int a = 0; a < 4; a++) {
            registers[a] = BigInteger.ZERO;
        }
    }

    int radix() {
        return radix;
    }

    int set(int a, int i, int digit) {
        if (bad(a)) return -1;
        if (i < 0 || i > 23) return -2;
        if (digit < 0 || digit >= radix) return -3;
        int before = digit(a, i);
        registers[a] = registers[a].add(base.pow(i).multiply(BigInteger.valueOf(digit - before)));
        return before;
    }

    int shift(int a, int places) {
        if (bad(a)) return -1;
        if (places < -24 || places > 24) return -2;
        BigInteger factor = base.pow(Math.abs(places));
        if (places < 0) {
            BigInteger[] parts = registers[a].divideAndRemainder(factor);
            registers[a] = parts[0];
            return digitsNotZero(parts[1]);
        }
        BigInteger[] parts = registers[a].multiply(factor).divideAndRemainder(end);
        registers[a] = parts[1];
        return digitsNotZero(parts[0]);
    }

    int feed(int a, int digit) {
        if (bad(a)) return -1;
        if (digit < 0 || digit >= radix) return -2;
        BigInteger[] parts = registers[a].multiply(base).add(BigInteger.valueOf(digit)).divideAndRemainder(end);
        registers[a] = parts[1];
        return parts[0].intValue();
    }

    int copy(int a, int b) {
        if (bad(a) || bad(b)) return -1;
        registers[a] = registers[b];
        return 0;
    }

    int add(int a, int b) {
        if (bad(a) || bad(b)) return -1;
        return become(a, registers[a].add(registers[b]), -2);
    }

    int subtract(int a, int b) {
        if (bad(a) || bad(b)) return -1;
        return become(a, registers[a].subtract(registers[b]), -2);
    }

    int multiply(int a, int b) {
        if (bad(a) || bad(b)) return -1;
        return become(a, registers[a].multiply(registers[b]), -2);
    }

    int multiplyLow(int a, int b) {
        if (bad(a) || bad(b)) return -1;
        BigInteger product = registers[a].multiply(registers[b]);
        registers[a] = product.mod(end);
        return product.compareTo(end) >= 0 ? 1 : 0;
    }

    int divide(int q, int a, int b) {
        if (bad(q) || bad(a) || bad(b)) return -1;
        if (q == a || q == b || a == b) return -2;
        if (registers[b].signum() == 0) return -3;
        BigInteger[] parts = registers[a].divideAndRemainder(registers[b]);
        registers[q] = parts[0];
        registers[a] = parts[1];
        return 0;
    }

    int root(int a) {
        if (bad(a)) return -1;
        registers[a] = registers[a].sqrt();
        return 0;
    }

    int power(int a, int n) {
        if (bad(a)) return -1;
        if (n < 0 || n > 100) return -2;
        return become(a, registers[a].pow(n), -3);
    }

    int divisor(int a, int b) {
        if (bad(a) || bad(b)) return -1;
        registers[a] = registers[a].gcd(registers[b]);
        return 0;
    }

    int digit(int a, int i) {
        if (bad(a)) return -1;
        if (i < 0 || i > 23) return -2;
        return digitOf(registers[a], radix, i);
    }

    int length(int a) {
        if (bad(a)) return -1;
        return lengthOf(registers[a], radix);
    }

    int compare(int a, int b) {
        if (bad(a) || bad(b)) return -1;
        int order = registers[a].compareTo(registers[b]);
        return order == 0 ? 0 : order > 0 ? 1 : 2;
    }

    int digitIn(int a, int other, int i) {
        if (bad(a)) return -1;
        if (other < 2 || other > 36) return -2;
        if (i < 0 || i > 127) return -3;
        return digitOf(registers[a], other, i);
    }

    int lengthIn(int a, int other) {
        if (bad(a)) return -1;
        if (other < 2 || other > 36) return -2;
        return lengthOf(registers[a], other);
    }

    int remainder(int a, int m) {
        if (bad(a)) return -1;
        if (m < 1 || m > 1000000) return -2;
        return registers[a].mod(BigInteger.valueOf(m)).intValue();
    }

    private static boolean bad(int a) {
        return a < 0 || a > 3;
    }

    private int become(int a, BigInteger number, int refusal) {
        if (number.signum() < 0 || number.compareTo(end) >= 0) return refusal;
        registers[a] = number;
        return 0;
    }

    private int digitsNotZero(BigInteger number) {
        return number.toString(radix).replace("0", "").length();
    }

    private static int digitOf(BigInteger number, int radix, int i) {
        BigInteger base = BigInteger.valueOf(radix);
        return number.divide(base.pow(i)).mod(base).intValue();
    }

    private static int lengthOf(BigInteger number, int radix) {
        return number.signum() == 0 ? 0 : number.toString(radix).length();
    }
}
