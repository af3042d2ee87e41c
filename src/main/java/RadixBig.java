/** Whole numbers with digits in any radix, multiplied, divided and written anew in other radices. */
public final class RadixBig {
    private static final int LEAST_RADIX = 2;
    private static final int GREATEST_RADIX = 36;
    private static final int REGISTERS = 4;
    private static final int PLACES = 24;
    private static final int CELLS = REGISTERS * PLACES;

    // The carry of a sum and the digit that a feed pushes out need one place more than a register.
    private static final int WIDE = PLACES + 1;
    private static final int PRODUCT_PLACES = 2 * PLACES;

    // A number below R^24 has a root below R^12.
    private static final int ROOT_PLACES = PLACES / 2;
    private static final int GREATEST_POWER = 100;

    // 36^24 has 125 digits in radix 2, so no number here is longer than this in any radix.
    private static final int OTHER_PLACES = 128;
    private static final int GREATEST_MODULUS = 1000000;

    // Two steps of Euclid at least halve a number, so below 2^125 some 250 steps are enough.
    private static final int EUCLID_STEPS = 10000;

    private static final int SAME = 0;
    private static final int FIRST_GREATER = 1;
    private static final int SECOND_GREATER = 2;

    private final int base;

    // Digit i of register a is cell a * PLACES + i.
    private final int[] cells = new int[CELLS];

    // Work space only: nothing is kept in these from one call to the next.
    private final int[] left = new int[WIDE];
    private final int[] right = new int[WIDE];
    private final int[] quotient = new int[PLACES];
    private final int[] rest = new int[WIDE];
    private final int[] product = new int[PRODUCT_PLACES];

    public RadixBig(int radix) {
        if (radix < LEAST_RADIX) {
            base = LEAST_RADIX;
        } else if (radix > GREATEST_RADIX) {
            base = GREATEST_RADIX;
        } else {
            base = radix;
        }
    }

    public int radix() {
        return base;
    }

    public int set(int a, int i, int digit) {
        if (!isRegister(a)) {
            return -1;
        }
        if (!isPlace(i)) {
            return -2;
        }
        if (!isDigit(digit)) {
            return -3;
        }
        int cell = a * PLACES + i;
        int before = cells[cell];
        cells[cell] = digit;
        return before;
    }

    public int shift(int a, int places) {
        if (!isRegister(a)) {
            return -1;
        }
        if (places < -PLACES || places > PLACES) {
            return -2;
        }
        load(a, left);
        clear(right);
        int lost = 0;
        for (int i = 0; i < PLACES; i++) {
            int target = i + places;
            if (isPlace(target)) {
                right[target] = left[i];
            } else if (left[i] != 0) {
                lost++;
            }
        }
        store(right, a);
        return lost;
    }

    public int feed(int a, int digit) {
        if (!isRegister(a)) {
            return -1;
        }
        if (!isDigit(digit)) {
            return -2;
        }
        load(a, left);
        pushDigit(left, digit);
        store(left, a);
        return left[PLACES];
    }

    public int copy(int a, int b) {
        if (!isRegister(a) || !isRegister(b)) {
            return -1;
        }
        load(b, left);
        store(left, a);
        return 0;
    }

    public int add(int a, int b) {
        if (!isRegister(a) || !isRegister(b)) {
            return -1;
        }
        load(a, left);
        load(b, right);
        increase(left, right);
        if (left[PLACES] != 0) {
            return -2;
        }
        store(left, a);
        return 0;
    }

    public int subtract(int a, int b) {
        if (!isRegister(a) || !isRegister(b)) {
            return -1;
        }
        load(a, left);
        load(b, right);
        if (order(left, right) == SECOND_GREATER) {
            return -2;
        }
        decrease(left, right);
        store(left, a);
        return 0;
    }

    public int multiply(int a, int b) {
        if (!isRegister(a) || !isRegister(b)) {
            return -1;
        }
        load(a, left);
        load(b, right);
        formProduct(left, right);
        if (productIsTooLong()) {
            return -2;
        }
        store(product, a);
        return 0;
    }

    public int multiplyLow(int a, int b) {
        if (!isRegister(a) || !isRegister(b)) {
            return -1;
        }
        load(a, left);
        load(b, right);
        formProduct(left, right);
        store(product, a);
        return productIsTooLong() ? 1 : 0;
    }

    public int divide(int q, int a, int b) {
        if (!isRegister(q) || !isRegister(a) || !isRegister(b)) {
            return -1;
        }
        if (q == a || q == b || a == b) {
            return -2;
        }
        load(a, left);
        load(b, right);
        if (isZero(right)) {
            return -3;
        }
        formQuotient();
        store(quotient, q);
        store(rest, a);
        return 0;
    }

    public int root(int a) {
        if (!isRegister(a)) {
            return -1;
        }
        load(a, left);
        clear(right);
        for (int i = ROOT_PLACES - 1; i >= 0; i--) {
            settleRootDigit(i);
        }
        store(right, a);
        return 0;
    }

    public int power(int a, int n) {
        if (!isRegister(a)) {
            return -1;
        }
        if (n < 0 || n > GREATEST_POWER) {
            return -2;
        }
        load(a, right);
        clear(left);
        left[0] = 1;
        for (int k = 0; k < n; k++) {
            formProduct(left, right);
            // A product can get too long only where the factor is 2 or more, and then it stays so.
            if (productIsTooLong()) {
                return -3;
            }
            copyPlaces(product, left);
        }
        store(left, a);
        return 0;
    }

    public int divisor(int a, int b) {
        if (!isRegister(a) || !isRegister(b)) {
            return -1;
        }
        load(a, left);
        load(b, right);
        for (int step = 0; step < EUCLID_STEPS && !isZero(right); step++) {
            formQuotient();
            copyPlaces(right, left);
            copyPlaces(rest, right);
        }
        store(left, a);
        return 0;
    }

    public int digit(int a, int i) {
        if (!isRegister(a)) {
            return -1;
        }
        if (!isPlace(i)) {
            return -2;
        }
        return cells[a * PLACES + i];
    }

    public int length(int a) {
        if (!isRegister(a)) {
            return -1;
        }
        for (int i = PLACES; i > 0; i--) {
            if (cells[a * PLACES + i - 1] != 0) {
                return i;
            }
        }
        return 0;
    }

    public int compare(int a, int b) {
        if (!isRegister(a) || !isRegister(b)) {
            return -1;
        }
        load(a, left);
        load(b, right);
        return order(left, right);
    }

    public int digitIn(int a, int other, int i) {
        if (!isRegister(a)) {
            return -1;
        }
        if (!isRadix(other)) {
            return -2;
        }
        if (i < 0 || i >= OTHER_PLACES) {
            return -3;
        }
        load(a, left);
        int last = 0;
        for (int k = 0; k <= i; k++) {
            last = takeLastDigit(left, other);
        }
        return last;
    }

    public int lengthIn(int a, int other) {
        if (!isRegister(a)) {
            return -1;
        }
        if (!isRadix(other)) {
            return -2;
        }
        load(a, left);
        int count = 0;
        while (count < OTHER_PLACES && !isZero(left)) {
            takeLastDigit(left, other);
            count++;
        }
        return count;
    }

    public int remainder(int a, int m) {
        if (!isRegister(a)) {
            return -1;
        }
        if (m < 1 || m > GREATEST_MODULUS) {
            return -2;
        }
        int over = 0;
        for (int i = PLACES - 1; i >= 0; i--) {
            // At most 999999 * 36 + 35: an int holds it.
            over = (over * base + cells[a * PLACES + i]) % m;
        }
        return over;
    }

    private static boolean isRegister(int a) {
        return a >= 0 && a < REGISTERS;
    }

    private static boolean isPlace(int i) {
        return i >= 0 && i < PLACES;
    }

    private static boolean isRadix(int other) {
        return other >= LEAST_RADIX && other <= GREATEST_RADIX;
    }

    private boolean isDigit(int d) {
        return d >= 0 && d < base;
    }

    private void load(int a, int[] to) {
        for (int i = 0; i < PLACES; i++) {
            to[i] = cells[a * PLACES + i];
        }
        to[PLACES] = 0;
    }

    private void store(int[] from, int a) {
        for (int i = 0; i < PLACES; i++) {
            cells[a * PLACES + i] = from[i];
        }
    }

    private static void clear(int[] x) {
        for (int i = 0; i < WIDE; i++) {
            x[i] = 0;
        }
    }

    private static void copyPlaces(int[] from, int[] to) {
        for (int i = 0; i < PLACES; i++) {
            to[i] = from[i];
        }
        to[PLACES] = 0;
    }

    private static boolean isZero(int[] x) {
        for (int i = 0; i < WIDE; i++) {
            if (x[i] != 0) {
                return false;
            }
        }
        return true;
    }

    private static int order(int[] x, int[] y) {
        for (int i = WIDE - 1; i >= 0; i--) {
            if (x[i] != y[i]) {
                return x[i] > y[i] ? FIRST_GREATER : SECOND_GREATER;
            }
        }
        return SAME;
    }

    private static void pushDigit(int[] x, int d) {
        for (int i = WIDE - 1; i > 0; i--) {
            x[i] = x[i - 1];
        }
        x[0] = d;
    }

    private void increase(int[] x, int[] y) {
        int carry = 0;
        for (int i = 0; i < WIDE; i++) {
            int sum = x[i] + y[i] + carry;
            carry = sum >= base ? 1 : 0;
            x[i] = sum - carry * base;
        }
    }

    // Only for x not below y: the last borrow would be lost.
    private void decrease(int[] x, int[] y) {
        int borrow = 0;
        for (int i = 0; i < WIDE; i++) {
            int difference = x[i] - y[i] - borrow;
            borrow = difference < 0 ? 1 : 0;
            x[i] = difference + borrow * base;
        }
    }

    private void formProduct(int[] x, int[] y) {
        for (int i = 0; i < PRODUCT_PLACES; i++) {
            product[i] = 0;
        }
        // A place gathers at most 24 * 35 * 35, so the carries can wait until all is gathered.
        for (int i = 0; i < PLACES; i++) {
            for (int j = 0; j < PLACES; j++) {
                product[i + j] += x[i] * y[j];
            }
        }
        int carry = 0;
        for (int i = 0; i < PRODUCT_PLACES; i++) {
            int sum = product[i] + carry;
            product[i] = sum % base;
            carry = sum / base;
        }
    }

    private boolean productIsTooLong() {
        for (int i = PLACES; i < PRODUCT_PLACES; i++) {
            if (product[i] != 0) {
                return true;
            }
        }
        return false;
    }

    // Divides left by right, which must not be 0, into quotient and rest.
    private void formQuotient() {
        clear(rest);
        for (int i = PLACES - 1; i >= 0; i--) {
            pushDigit(rest, left[i]);
            quotient[i] = takeOut(rest, right);
        }
    }

    // The rest was below y before it got its last digit, so y goes into it fewer than R times.
    private int takeOut(int[] x, int[] y) {
        int times = 0;
        while (times < base && order(x, y) != SECOND_GREATER) {
            decrease(x, y);
            times++;
        }
        return times;
    }

    // Gives digit i of right the greatest value with which its square is not above left.
    private void settleRootDigit(int i) {
        for (int d = base - 1; d >= 0; d--) {
            right[i] = d;
            // The square has at most 24 digits, so the places that order looks at are all of it.
            formProduct(right, right);
            if (order(product, left) != FIRST_GREATER) {
                return;
            }
        }
    }

    // Divides x by another radix and answers what is left over: the last digit in that radix.
    private int takeLastDigit(int[] x, int other) {
        int over = 0;
        for (int i = PLACES - 1; i >= 0; i--) {
            int value = over * base + x[i];
            x[i] = value / other;
            over = value % other;
        }
        return over;
    }
}
