import java.math.BigInteger;
import java.util.ArrayList;
import java.util.List;

/** One sentence of the document that names a boundary case; every call here is made on an object of its own. */
final class Edge {
    static final int MIN = Integer.MIN_VALUE;
    static final int MAX = Integer.MAX_VALUE;

    private static final List<Call> LATER_CALLS = laterCalls();

    private final String sentence;
    private final int radix;
    private final String[] numbers;

    /** The numbers, written in the radix, are what the registers hold before each call. */
    Edge(String sentence, int radix, String... numbers) {
        this.sentence = sentence;
        this.radix = radix;
        this.numbers = numbers;
    }

    static Edge of(String sentence, int radix, BigInteger... numbers) {
        return new Edge(sentence, radix, Scene.texts(radix, numbers));
    }

    /** An edge for refusals: what is wrongly carried out shows in a mixture of numbers. */
    static Edge among(String sentence, int radix) {
        return new Edge(sentence, radix, mixture(radix));
    }

    /** The greatest number, a long one, 0 and a short one. */
    static String[] mixture(int radix) {
        return new String[] {Scene.greatest(radix), "110100100011", "0", "101"};
    }

    /** The call is taken with this answer; what the registers hold now is asked of the scene. */
    Scene taken(int answer, String method, int... arguments) {
        Scene scene = Scene.used(radix, numbers).about(sentence);
        Call call = new Call(method, arguments);
        return scene.due(call.toString(), call.on(scene.big), answer);
    }

    /** The call is refused with this answer, and nothing has changed. */
    Edge refused(int answer, String method, int... arguments) {
        return unchanged(answer, method, arguments);
    }

    /** The question has this answer, and nothing has changed. */
    Edge answered(int answer, String method, int... arguments) {
        return unchanged(answer, method, arguments);
    }

    private Edge unchanged(int answer, String method, int... arguments) {
        Scene scene = taken(answer, method, arguments);
        scene.due("radix()", scene.big.radix(), radix);
        scene.holds(numbers);
        // Digits alone don't show what the object may keep elsewhere, so its later answers are
        // held against those of a fresh object that never got the call.
        Scene twin = new Scene(radix, numbers);
        for (Call later : LATER_CALLS) {
            int got = later.on(scene.big);
            int want = later.on(twin.big);
            scene.due(got == want ? "" : new Call(method, arguments) + " and later " + later, got, want);
        }
        return this;
    }

    private static List<Call> laterCalls() {
        List<Call> calls = new ArrayList<>();
        for (int a = 0; a < Scene.REGISTERS; a++) {
            calls.add(new Call("length", a));
            calls.add(new Call("lengthIn", a, 7));
            calls.add(new Call("digitIn", a, 2, 11));
            calls.add(new Call("remainder", a, 999983));
            calls.add(new Call("compare", a, 3 - a));
        }
        calls.add(new Call("add", 3, 1));
        calls.add(new Call("divide", 2, 0, 3));
        calls.add(new Call("multiplyLow", 3, 2));
        calls.add(new Call("subtract", 1, 0));
        calls.add(new Call("power", 0, 3));
        calls.add(new Call("shift", 2, 1));
        calls.add(new Call("feed", 2, 1));
        calls.add(new Call("divisor", 0, 2));
        calls.add(new Call("root", 3));
        calls.add(new Call("multiply", 1, 3));
        for (int a = 0; a < Scene.REGISTERS; a++) {
            for (int i = 0; i < Scene.PLACES; i++) {
                calls.add(new Call("digit", a, i));
            }
        }
        return calls;
    }

    /** R^n. */
    static BigInteger power(int radix, int n) {
        return BigInteger.valueOf(radix).pow(n);
    }

    /** R^24 - 1. */
    static BigInteger most(int radix) {
        return power(radix, Scene.PLACES).subtract(BigInteger.ONE);
    }

    /** Numbers from 1 to R^24 - 1 of every size, those around powers of R among them. */
    static List<BigInteger> sizes(int radix) {
        List<BigInteger> sizes = new ArrayList<>();
        int[] exponents = {1, 2, 11, 12, 13, 22, 23};
        sizes.add(BigInteger.ONE);
        for (int n : exponents) {
            BigInteger power = power(radix, n);
            sizes.add(power.subtract(BigInteger.ONE));
            sizes.add(power);
            sizes.add(power.add(BigInteger.ONE));
        }
        sizes.add(most(radix).subtract(BigInteger.ONE));
        sizes.add(most(radix));
        return sizes;
    }
}
