/** Promises 1 and 2: a new object, radix. */
public final class NewObjectTest {
    public static void main(String[] args) {
        radixIsKept();
        radixIsBounded();
        registersAreZero();
        digitsFollowTheBoundedRadix();
        objectsAreApart();
        Scene.end();
    }

    private static void radixIsKept() {
        for (int radix = 2; radix <= 36; radix++) {
            Scene.check("radix " + radix + " is kept", new RadixBig(radix).radix() == radix);
        }
    }

    private static void radixIsBounded() {
        int[] low = {1, 0, -1, -36, Integer.MIN_VALUE};
        for (int radix : low) {
            Scene.check("radix " + radix + " becomes 2", new RadixBig(radix).radix() == 2);
        }
        int[] high = {37, 38, 100, Integer.MAX_VALUE};
        for (int radix : high) {
            Scene.check("radix " + radix + " becomes 36", new RadixBig(radix).radix() == 36);
        }
    }

    private static void registersAreZero() {
        for (int radix = 2; radix <= 36; radix++) {
            new Scene(radix).holds();
        }
    }

    private static void digitsFollowTheBoundedRadix() {
        RadixBig low = new RadixBig(-5);
        Scene.check("digit 1 is good below 2", low.set(0, 0, 1) == 0);
        Scene.check("digit 2 is refused below 2", low.set(0, 0, 2) == -3);
        RadixBig high = new RadixBig(40);
        Scene.check("digit 35 is good above 36", high.set(0, 0, 35) == 0);
        Scene.check("digit 36 is refused above 36", high.set(0, 0, 36) == -3);
    }

    private static void objectsAreApart() {
        RadixBig one = new RadixBig(10);
        RadixBig two = new RadixBig(16);
        one.set(0, 0, 7);
        Scene.check("another object keeps its digits", two.digit(0, 0) == 0);
        Scene.check("another object keeps its radix", one.radix() == 10 && two.radix() == 16);
    }
}
