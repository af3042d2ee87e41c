import java.math.BigInteger;

/** The boundaries of promises 7 to 14: add .. divisor; a method here is one sentence of the document. */
public final class ArithmeticEdgesTest {
    private static final BigInteger ZERO = BigInteger.ZERO;
    private static final BigInteger ONE = BigInteger.ONE;
    private static final BigInteger TWO = BigInteger.TWO;

    public static void main(String[] args) {
        for (int radix = 2; radix <= 36; radix++) {
            sums(radix);
            products(radix);
            quotients(radix);
            roots(radix);
            powers(radix);
            divisors(radix);
        }
        Scene.end();
    }

    private static void sums(int radix) {
        registersOfTwo("Promise 7, add: -1 if a or b is not good", "add", radix);
        addUpToTheGreatest(radix);
        addToItself(radix);
        registersOfTwo("Promise 8, subtract: -1 if a or b is not good", "subtract", radix);
        subtractDownToZero(radix);
    }

    private static void products(int radix) {
        registersOfTwo("Promise 9, multiply: -1 if a or b is not good", "multiply", radix);
        multiplyUpToTheGreatest(radix);
        multiplyByZeroAndOne(radix);
        multiplyByItself(radix);
        registersOfTwo("Promise 10, multiplyLow: -1 if a or b is not good", "multiplyLow", radix);
        multiplyLowFromTheGreatestOn(radix);
        multiplyLowByItself(radix);
    }

    private static void quotients(int radix) {
        divideRegisters(radix);
        divideTheSame(radix);
        divideByZero(radix);
        divideOrder(radix);
        divideAroundMultiples(radix);
    }

    private static void roots(int radix) {
        rootRegister(radix);
        rootAroundSquares(radix);
        rootOfTheLeastAndTheGreatest(radix);
    }

    private static void powers(int radix) {
        powerRegister(radix);
        powerExponent(radix);
        powerUpToTheGreatest(radix);
        powerZero(radix);
        powerOrder(radix);
    }

    private static void divisors(int radix) {
        registersOfTwo("Promise 14, divisor: -1 if a or b is not good", "divisor", radix);
        divisorWithZero(radix);
        divisorOfTheGreatest(radix);
    }

    /** 1 and 1: each method of two registers takes them, whichever good registers they stand in. */
    private static void registersOfTwo(String sentence, String method, int radix) {
        Edge ones = new Edge(sentence, radix, "1", "0", "0", "1");
        BigInteger now = method.equals("add") ? TWO : method.equals("subtract") ? ZERO : ONE;
        ones.taken(0, method, 0, 3).holdsNumbers(now, ZERO, ZERO, ONE);
        ones.taken(0, method, 3, 0).holdsNumbers(ONE, ZERO, ZERO, now);
        Edge edge = new Edge(sentence, radix, "1010", "11", "1", "101");
        for (int bad : Scene.NOT_REGISTERS) {
            for (int good = 0; good < Scene.REGISTERS; good++) {
                edge.refused(-1, method, bad, good).refused(-1, method, good, bad);
            }
            edge.refused(-1, method, bad, bad);
        }
        edge.refused(-1, method, 4, -1).refused(-1, method, -1, 4);
        // What would be refused with good registers too: the register is named first.
        Edge.among(sentence, radix).refused(-1, method, 0, 4).refused(-1, method, 4, 0).refused(-1, method, 2, 4);
    }

    private static void addUpToTheGreatest(int radix) {
        String sentence = "Promise 7, add: -2 if the sum is R^24 or more";
        BigInteger most = Edge.most(radix);
        for (BigInteger b : Edge.sizes(radix)) {
            BigInteger a = most.subtract(b);
            Edge.of(sentence, radix, ONE, a, b).taken(0, "add", 1, 2).holdsNumbers(ONE, most, b);
            Edge.of(sentence, radix, ONE, a.add(ONE), b).refused(-2, "add", 1, 2).refused(-2, "add", 2, 1);
        }
        Edge.of(sentence, radix, most, ZERO).taken(0, "add", 0, 1).holdsNumbers(most);
        Edge.of(sentence, radix, most, ZERO).taken(0, "add", 1, 0).holdsNumbers(most, most);
        Edge.of(sentence, radix, most, most).refused(-2, "add", 0, 1);
    }

    private static void addToItself(int radix) {
        String sentence = "Promise 7, add: a and b may be the same";
        BigInteger half = Edge.most(radix).divide(TWO);
        Edge.of(sentence, radix, half, ONE).taken(0, "add", 0, 0).holdsNumbers(half.add(half), ONE);
        Edge.of(sentence, radix, half.add(ONE), ONE).refused(-2, "add", 0, 0);
        Edge.of(sentence, radix, ONE, ONE, ONE, ZERO).taken(0, "add", 3, 3).holdsNumbers(ONE, ONE, ONE);
        Edge.of(sentence, radix, ONE, ONE, ONE, Edge.most(radix)).refused(-2, "add", 3, 3);
    }

    private static void subtractDownToZero(int radix) {
        String sentence = "Promise 8, subtract: -2 if b is greater than a";
        for (BigInteger b : Edge.sizes(radix)) {
            Edge.of(sentence, radix, ONE, b, b).taken(0, "subtract", 1, 2).holdsNumbers(ONE, ZERO, b);
            Edge.of(sentence, radix, ONE, b.subtract(ONE), b).refused(-2, "subtract", 1, 2);
            Edge.of(sentence, radix, ONE, b, b.subtract(ONE)).taken(0, "subtract", 1, 2)
                    .holdsNumbers(ONE, ONE, b.subtract(ONE));
            Edge.of(sentence, radix, ONE, b).taken(0, "subtract", 1, 2).holdsNumbers(ONE, b);
            Edge.of(sentence, radix, ONE, b).refused(-2, "subtract", 2, 1);
            Edge.of(sentence, radix, ONE, b).taken(0, "subtract", 1, 1).holdsNumbers(ONE);
        }
        Edge.of(sentence, radix, ONE).taken(0, "subtract", 2, 3).holdsNumbers(ONE);
        Edge.of(sentence, radix, ONE).taken(0, "subtract", 3, 3).holdsNumbers(ONE);
    }

    private static void multiplyUpToTheGreatest(int radix) {
        String sentence = "Promise 9, multiply: -2 if the product is R^24 or more";
        BigInteger most = Edge.most(radix);
        BigInteger middle = Edge.power(radix, 12);
        // (R^12 - 1) * (R^12 + 1) is R^24 - 1, and R^12 * R^12 is R^24: the two sides of the bound.
        Edge.of(sentence, radix, middle.subtract(ONE), middle.add(ONE)).taken(0, "multiply", 0, 1)
                .holdsNumbers(most, middle.add(ONE));
        Edge.of(sentence, radix, middle, middle).refused(-2, "multiply", 0, 1).refused(-2, "multiply", 1, 0);
        Edge.of(sentence, radix, most, most).refused(-2, "multiply", 0, 1);
        for (BigInteger b : Edge.sizes(radix)) {
            BigInteger a = most.divide(b);
            Edge.of(sentence, radix, ONE, a, b).taken(0, "multiply", 1, 2).holdsNumbers(ONE, a.multiply(b), b);
            if (a.compareTo(most) < 0) {
                Edge over = Edge.of(sentence, radix, ONE, a.add(ONE), b);
                over.refused(-2, "multiply", 1, 2).refused(-2, "multiply", 2, 1);
            }
        }
    }

    private static void multiplyByZeroAndOne(int radix) {
        String sentence = "Promise 9, multiply: a becomes a * b (by 0 and by 1)";
        BigInteger most = Edge.most(radix);
        Edge edge = Edge.of(sentence, radix, most, ZERO, ONE, most);
        edge.taken(0, "multiply", 0, 1).holdsNumbers(ZERO, ZERO, ONE, most);
        edge.taken(0, "multiply", 1, 0).holdsNumbers(most, ZERO, ONE, most);
        edge.taken(0, "multiply", 3, 2).holdsNumbers(most, ZERO, ONE, most);
        edge.taken(0, "multiply", 2, 3).holdsNumbers(most, ZERO, most, most);
        edge.taken(0, "multiply", 1, 1).holdsNumbers(most, ZERO, ONE, most);
        edge.taken(0, "multiply", 2, 2).holdsNumbers(most, ZERO, ONE, most);
    }

    private static void multiplyByItself(int radix) {
        String sentence = "Promise 9, multiply: a and b may be the same";
        BigInteger middle = Edge.power(radix, 12);
        BigInteger below = middle.subtract(ONE);
        Edge.of(sentence, radix, below, ONE).taken(0, "multiply", 0, 0).holdsNumbers(below.multiply(below), ONE);
        Edge.of(sentence, radix, middle, ONE).refused(-2, "multiply", 0, 0);
        Edge.of(sentence, radix, ONE, ONE, ONE, Edge.most(radix)).refused(-2, "multiply", 3, 3);
    }

    private static void multiplyLowFromTheGreatestOn(int radix) {
        String sentence = "Promise 10, multiplyLow: 1 if something was lost (the product is R^24 or more), else 0";
        BigInteger most = Edge.most(radix);
        BigInteger end = Edge.power(radix, 24);
        BigInteger middle = Edge.power(radix, 12);
        Edge.of(sentence, radix, middle.subtract(ONE), middle.add(ONE)).taken(0, "multiplyLow", 0, 1)
                .holdsNumbers(most, middle.add(ONE));
        Edge.of(sentence, radix, middle, middle).taken(1, "multiplyLow", 0, 1).holdsNumbers(ZERO, middle);
        Edge.of(sentence, radix, most, most).taken(1, "multiplyLow", 0, 1).holdsNumbers(ONE, most);
        Edge.of(sentence, radix, most, ZERO).taken(0, "multiplyLow", 0, 1).holdsNumbers(ZERO);
        Edge.of(sentence, radix, ZERO, most).taken(0, "multiplyLow", 0, 1).holdsNumbers(ZERO, most);
        for (BigInteger b : Edge.sizes(radix)) {
            BigInteger a = most.divide(b);
            Edge.of(sentence, radix, ONE, a, b).taken(0, "multiplyLow", 1, 2).holdsNumbers(ONE, a.multiply(b), b);
            if (a.compareTo(most) < 0) {
                BigInteger over = a.add(ONE);
                Edge.of(sentence, radix, ONE, over, b).taken(1, "multiplyLow", 1, 2)
                        .holdsNumbers(ONE, over.multiply(b).mod(end), b);
            }
        }
    }

    private static void multiplyLowByItself(int radix) {
        String sentence = "Promise 10, multiplyLow: a becomes a * b without its digits from R^24 on (of itself)";
        BigInteger middle = Edge.power(radix, 12);
        BigInteger below = middle.subtract(ONE);
        BigInteger above = middle.add(ONE);
        Edge.of(sentence, radix, below, ONE).taken(0, "multiplyLow", 0, 0).holdsNumbers(below.multiply(below), ONE);
        Edge.of(sentence, radix, middle, ONE).taken(1, "multiplyLow", 0, 0).holdsNumbers(ZERO, ONE);
        Edge.of(sentence, radix, above, ONE).taken(1, "multiplyLow", 0, 0)
                .holdsNumbers(middle.multiply(TWO).add(ONE), ONE);
        Edge.of(sentence, radix, ONE, ONE, ONE, Edge.most(radix)).taken(1, "multiplyLow", 3, 3)
                .holdsNumbers(ONE, ONE, ONE, ONE);
    }

    private static void divideRegisters(int radix) {
        String sentence = "Promise 11, divide: -1 if q, a or b is not good";
        Edge edge = new Edge(sentence, radix, "1", "1", "1", "1");
        edge.taken(0, "divide", 0, 3, 1).holds("1", "1", "1", "0");
        edge.taken(0, "divide", 1, 0, 3).holds("0", "1", "1", "1");
        edge.taken(0, "divide", 3, 1, 0).holds("1", "0", "1", "1");
        Edge full = new Edge(sentence, radix, "1011", "11", "10", "101");
        for (int bad : Scene.NOT_REGISTERS) {
            full.refused(-1, "divide", bad, 0, 1).refused(-1, "divide", bad, 3, 2);
            full.refused(-1, "divide", 2, bad, 1).refused(-1, "divide", 0, bad, 3);
            full.refused(-1, "divide", 2, 0, bad).refused(-1, "divide", 1, 3, bad);
            full.refused(-1, "divide", bad, bad, 1).refused(-1, "divide", bad, 0, bad);
            full.refused(-1, "divide", 2, bad, bad).refused(-1, "divide", bad, bad, bad);
        }
        full.refused(-1, "divide", 4, -1, 5);
    }

    private static void divideTheSame(int radix) {
        Edge edge = new Edge("Promise 11, divide: -2 if two of them are the same", radix, "1011", "11", "10", "101");
        for (int a = 0; a < Scene.REGISTERS; a++) {
            for (int b = 0; b < Scene.REGISTERS; b++) {
                edge.refused(-2, "divide", a, a, b);
                edge.refused(-2, "divide", a, b, a);
                edge.refused(-2, "divide", b, a, a);
            }
        }
    }

    private static void divideByZero(int radix) {
        String sentence = "Promise 11, divide: -3 if b is 0";
        String greatest = Scene.greatest(radix);
        Edge edge = new Edge(sentence, radix, greatest, "0", "11", "1");
        edge.refused(-3, "divide", 2, 0, 1).refused(-3, "divide", 3, 0, 1).refused(-3, "divide", 0, 2, 1);
        new Edge(sentence, radix, "1", "0", "0", "11").refused(-3, "divide", 0, 1, 2).refused(-3, "divide", 3, 2, 1);
        edge.taken(0, "divide", 2, 0, 3).holds("0", "0", greatest, "1");
        edge.taken(0, "divide", 2, 1, 3).holds(greatest, "0", "0", "1");
        // A number that is not 0, but whose last digit is.
        new Edge(sentence, radix, Scene.one(23), "1", Scene.one(23)).taken(0, "divide", 1, 0, 2)
                .holds("0", "1", Scene.one(23));
    }

    private static void divideOrder(int radix) {
        Edge edge = new Edge("Terms, divide: the tests are made in the order named", radix, "1011", "0", "10", "0");
        edge.refused(-1, "divide", 4, 0, 0).refused(-1, "divide", -1, 2, 2);
        edge.refused(-1, "divide", 0, 4, 0).refused(-1, "divide", 2, -1, 2);
        edge.refused(-1, "divide", 0, 0, 4).refused(-1, "divide", 2, 2, -1);
        edge.refused(-1, "divide", 4, 0, 1).refused(-1, "divide", 0, -1, 1);
        edge.refused(-1, "divide", 4, 1, 1).refused(-1, "divide", 1, -1, 1).refused(-1, "divide", 1, 1, 4);
        edge.refused(-2, "divide", 0, 0, 1).refused(-2, "divide", 1, 0, 1).refused(-2, "divide", 0, 1, 1);
        edge.refused(-2, "divide", 1, 1, 3).refused(-2, "divide", 1, 1, 1);
        edge.refused(-3, "divide", 0, 2, 1).refused(-3, "divide", 1, 2, 3);
    }

    private static void divideAroundMultiples(int radix) {
        String sentence = "Promise 11, divide: q becomes the whole quotient of a by b, and a becomes the remainder";
        BigInteger most = Edge.most(radix);
        for (BigInteger b : Edge.sizes(radix)) {
            BigInteger below = b.subtract(ONE);
            Edge.of(sentence, radix, b, b, most).taken(0, "divide", 2, 0, 1).holdsNumbers(ZERO, b, ONE);
            Edge.of(sentence, radix, below, b, most).taken(0, "divide", 2, 0, 1).holdsNumbers(below, b, ZERO);
            Edge.of(sentence, radix, ZERO, b, most).taken(0, "divide", 2, 0, 1).holdsNumbers(ZERO, b, ZERO);
            BigInteger times = most.divide(b);
            BigInteger multiple = times.multiply(b);
            Edge.of(sentence, radix, multiple, b, most).taken(0, "divide", 2, 0, 1).holdsNumbers(ZERO, b, times);
            Edge.of(sentence, radix, multiple.subtract(ONE), b, most).taken(0, "divide", 2, 0, 1)
                    .holdsNumbers(below, b, times.subtract(ONE));
            Edge.of(sentence, radix, most, b, ONE).taken(0, "divide", 2, 0, 1)
                    .holdsNumbers(most.mod(b), b, times);
        }
    }

    private static void rootRegister(int radix) {
        String sentence = "Promise 12, root: -1 if a is not good";
        Edge edge = new Edge(sentence, radix, "100", "1", "1", "100");
        edge.taken(0, "root", 0).holds("10", "1", "1", "100");
        edge.taken(0, "root", 3).holds("100", "1", "1", "10");
        for (int a : Scene.NOT_REGISTERS) {
            Edge.among(sentence, radix).refused(-1, "root", a);
        }
    }

    private static void rootAroundSquares(int radix) {
        String sentence = "Promise 12, root: a becomes the whole part of its square root";
        for (BigInteger root : Edge.sizes(radix)) {
            if (root.compareTo(Edge.power(radix, 12)) >= 0) {
                continue;
            }
            BigInteger square = root.multiply(root);
            BigInteger lastOfTheSame = square.add(root).add(root);
            Edge.of(sentence, radix, ONE, square).taken(0, "root", 1).holdsNumbers(ONE, root);
            Edge.of(sentence, radix, ONE, lastOfTheSame).taken(0, "root", 1).holdsNumbers(ONE, root);
            Edge.of(sentence, radix, ONE, square.subtract(ONE)).taken(0, "root", 1)
                    .holdsNumbers(ONE, root.subtract(ONE));
        }
    }

    private static void rootOfTheLeastAndTheGreatest(int radix) {
        String sentence = "Promise 12, root: a becomes the whole part of its square root (0 and R^24 - 1)";
        Edge edge = Edge.of(sentence, radix, ZERO, Edge.most(radix), Edge.power(radix, 23));
        edge.taken(0, "root", 0).holdsNumbers(ZERO, Edge.most(radix), Edge.power(radix, 23));
        BigInteger root = Edge.power(radix, 12).subtract(ONE);
        edge.taken(0, "root", 1).holdsNumbers(ZERO, root, Edge.power(radix, 23));
        edge.taken(0, "root", 2).holdsNumbers(ZERO, Edge.most(radix), Edge.power(radix, 23).sqrt());
    }

    private static void powerRegister(int radix) {
        String sentence = "Promise 13, power: -1 if a is not good";
        Edge edge = new Edge(sentence, radix, "10", "1", "1", "10");
        edge.taken(0, "power", 0, 2).holds("100", "1", "1", "10");
        edge.taken(0, "power", 3, 2).holds("10", "1", "1", "100");
        for (int a : Scene.NOT_REGISTERS) {
            Edge.among(sentence, radix).refused(-1, "power", a, 2).refused(-1, "power", a, 0);
        }
    }

    private static void powerExponent(int radix) {
        String sentence = "Promise 13, power: -2 if n is not in 0 .. 100";
        Edge edge = new Edge(sentence, radix, "0", "1", "10", Scene.greatest(radix));
        edge.taken(0, "power", 0, 0).holds("1", "1", "10", Scene.greatest(radix));
        edge.taken(0, "power", 3, 0).holds("0", "1", "10", "1");
        edge.taken(0, "power", 0, 100).holds("0", "1", "10", Scene.greatest(radix));
        edge.taken(0, "power", 1, 100).holds("0", "1", "10", Scene.greatest(radix));
        int[] notExponents = {-1, 101, 102, -100, Edge.MIN, Edge.MAX};
        for (int n : notExponents) {
            for (int a = 0; a < Scene.REGISTERS; a++) {
                edge.refused(-2, "power", a, n);
            }
        }
    }

    private static void powerUpToTheGreatest(int radix) {
        String sentence = "Promise 13, power: -3 if the power is R^24 or more";
        BigInteger most = Edge.most(radix);
        Edge.of(sentence, radix, ONE, most).taken(0, "power", 1, 1).holdsNumbers(ONE, most);
        Edge.of(sentence, radix, ONE, most).refused(-3, "power", 1, 2).refused(-3, "power", 1, 100);
        for (int n = 2; n <= 100; n++) {
            BigInteger last = greatestBase(most, n);
            Edge.of(sentence, radix, ONE, last).taken(0, "power", 1, n).holdsNumbers(ONE, last.pow(n));
            Edge.of(sentence, radix, ONE, last.add(ONE)).refused(-3, "power", 1, n);
        }
    }

    /** The greatest number whose n-th power is not above most. */
    private static BigInteger greatestBase(BigInteger most, int n) {
        BigInteger fits = ONE;
        BigInteger over = ONE.shiftLeft(most.bitLength() / n + 1);
        while (over.subtract(fits).compareTo(ONE) > 0) {
            BigInteger middle = fits.add(over).shiftRight(1);
            if (middle.pow(n).compareTo(most) <= 0) {
                fits = middle;
            } else {
                over = middle;
            }
        }
        return fits;
    }

    private static void powerZero(int radix) {
        String sentence = "Promise 13, power: every number to the power 0 is 1";
        Edge.of(sentence, radix, ZERO).taken(0, "power", 0, 0).holdsNumbers(ONE);
        for (BigInteger number : Edge.sizes(radix)) {
            Edge.of(sentence, radix, number, TWO).taken(0, "power", 0, 0).holdsNumbers(ONE, TWO);
        }
    }

    private static void powerOrder(int radix) {
        Edge edge = Edge.among("Terms, power: the tests are made in the order named", radix);
        edge.refused(-1, "power", 4, 101).refused(-1, "power", -1, -1);
        edge.refused(-1, "power", 4, 2).refused(-1, "power", Edge.MAX, Edge.MIN);
        edge.refused(-2, "power", 0, 101).refused(-2, "power", 0, -1);
        edge.refused(-3, "power", 0, 100);
    }

    private static void divisorWithZero(int radix) {
        String sentence = "Promise 14, divisor: that of 0 and a number is the number";
        for (BigInteger number : Edge.sizes(radix)) {
            Edge edge = Edge.of(sentence, radix, number, ZERO, ONE);
            edge.taken(0, "divisor", 0, 1).holdsNumbers(number, ZERO, ONE);
            edge.taken(0, "divisor", 1, 0).holdsNumbers(number, number, ONE);
        }
        Edge zeros = Edge.of(sentence, radix, ONE);
        zeros.taken(0, "divisor", 2, 3).holdsNumbers(ONE);
        zeros.taken(0, "divisor", 3, 3).holdsNumbers(ONE);
    }

    private static void divisorOfTheGreatest(int radix) {
        String sentence = "Promise 14, divisor: a becomes the greatest common divisor of a and b";
        BigInteger most = Edge.most(radix);
        for (BigInteger number : Edge.sizes(radix)) {
            Edge edge = Edge.of(sentence, radix, most, number, ONE);
            edge.taken(0, "divisor", 0, 1).holdsNumbers(most.gcd(number), number, ONE);
            edge.taken(0, "divisor", 1, 0).holdsNumbers(most, most.gcd(number), ONE);
            edge.taken(0, "divisor", 1, 1).holdsNumbers(most, number, ONE);
            edge.taken(0, "divisor", 1, 2).holdsNumbers(most, ONE, ONE);
            edge.taken(0, "divisor", 2, 1).holdsNumbers(most, number, ONE);
        }
    }
}
