/** The boundaries of promises 1 and 2; a method here is one sentence of the document. */
public final class NewObjectEdgesTest {
    public static void main(String[] args) {
        below2Becomes2();
        above36Becomes36();
        for (int radix = 2; radix <= 36; radix++) {
            radixStays(radix);
        }
        Scene.end();
    }

    private static void below2Becomes2() {
        String sentence = "Promise 1: below 2 becomes 2";
        int[] taken = {2, 3};
        for (int radix : taken) {
            Scene.check(sentence + ": " + radix + " stays", isOf(new RadixBig(radix), radix));
        }
        int[] tooSmall = {1, 0, -1, -2, -36, Edge.MIN};
        for (int radix : tooSmall) {
            Scene.check(sentence + ": " + radix, isOf(new RadixBig(radix), 2));
        }
    }

    private static void above36Becomes36() {
        String sentence = "Promise 1: above 36 becomes 36";
        int[] taken = {35, 36};
        for (int radix : taken) {
            Scene.check(sentence + ": " + radix + " stays", isOf(new RadixBig(radix), radix));
        }
        int[] tooLarge = {37, 38, 72, 1000, Edge.MAX};
        for (int radix : tooLarge) {
            Scene.check(sentence + ": " + radix, isOf(new RadixBig(radix), 36));
        }
    }

    /** The radix shows in three ways: by its name, by the greatest digit, and by what a place is worth. */
    private static boolean isOf(RadixBig big, int radix) {
        boolean named = big.radix() == radix;
        boolean digits = big.set(0, 0, radix) == -3 && big.set(0, 0, radix - 1) == 0;
        boolean worth = big.set(1, 1, 1) == 0 && big.remainder(1, 1000000) == radix;
        return named && digits && worth;
    }

    private static void radixStays(int radix) {
        String sentence = "Promise 2: radix is R";
        Edge.among(sentence, radix).answered(radix, "radix");
        Scene s = Edge.among(sentence, radix).taken(-3, "set", 0, 0, 37);
        s.due("lengthIn(0, 2)", s.big.lengthIn(0, 2), Edge.most(radix).bitLength());
        s.due("multiplyLow(0, 0)", s.big.multiplyLow(0, 0), 1);
        s.due("radix()", s.big.radix(), radix);
    }
}
