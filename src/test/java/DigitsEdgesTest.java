/** The boundaries of promises 3 to 6: set, shift, feed, copy; a method here is one sentence of the document. */
public final class DigitsEdgesTest {
    public static void main(String[] args) {
        for (int radix = 2; radix <= 36; radix++) {
            set(radix);
            shift(radix);
            feed(radix);
            copyRegisters(radix);
        }
        Scene.end();
    }

    private static void set(int radix) {
        setRegister(radix);
        setPlace(radix);
        setDigit(radix);
        setAnswersTheDigitBefore(radix);
        setOrder(radix);
    }

    private static void shift(int radix) {
        shiftRegister(radix);
        shiftPlaces(radix);
        shiftUpOutOfTheEnd(radix);
        shiftDownOutOfTheEnd(radix);
        shiftNewDigitsAreZero(radix);
        shiftCountsDigitsThatWereNotZero(radix);
        shiftOrder(radix);
    }

    private static void feed(int radix) {
        feedRegister(radix);
        feedDigit(radix);
        feedLosesDigit23(radix);
        feedOrder(radix);
    }

    private static int[] notDigits(int radix) {
        return new int[] {-1, radix, radix + 1, Edge.MIN, Edge.MAX};
    }

    private static void setRegister(int radix) {
        String sentence = "Promise 3, set: -1 if a is not good";
        Edge zeros = new Edge(sentence, radix);
        zeros.taken(0, "set", 0, 5, 1).holds("100000");
        zeros.taken(0, "set", 3, 5, 1).holds("0", "0", "0", "100000");
        for (int a : Scene.NOT_REGISTERS) {
            Edge.among(sentence, radix).refused(-1, "set", a, 5, 1);
        }
    }

    private static void setPlace(int radix) {
        String sentence = "Promise 3, set: -2 if i is not in 0 .. 23";
        Edge zeros = new Edge(sentence, radix);
        zeros.taken(0, "set", 1, 0, 1).holds("0", "1");
        zeros.taken(0, "set", 1, 23, 1).holds("0", Scene.one(23));
        for (int i : Scene.NOT_PLACES) {
            for (int a = 0; a < Scene.REGISTERS; a++) {
                Edge.among(sentence, radix).refused(-2, "set", a, i, 1);
                Edge.among(sentence, radix).refused(-2, "set", a, i, 0);
            }
        }
    }

    private static void setDigit(int radix) {
        String sentence = "Promise 3, set: -3 if digit is not in 0 .. R-1";
        String most = Integer.toString(radix - 1, radix);
        new Edge(sentence, radix).taken(0, "set", 2, 1, radix - 1).holds("0", "0", most + "0");
        new Edge(sentence, radix, "0", "0", most + "1").taken(radix - 1, "set", 2, 1, 0).holds("0", "0", "1");
        for (int digit : notDigits(radix)) {
            Edge.among(sentence, radix).refused(-3, "set", 0, 0, digit).refused(-3, "set", 3, 23, digit);
        }
    }

    private static void setAnswersTheDigitBefore(int radix) {
        String sentence = "Promise 3, set: otherwise answers the digit before";
        String most = Integer.toString(radix - 1, radix);
        Edge edge = new Edge(sentence, radix, Scene.greatest(radix), "0", "10");
        edge.taken(radix - 1, "set", 0, 23, radix - 1).holds(Scene.greatest(radix), "0", "10");
        edge.taken(0, "set", 1, 23, 0).holds(Scene.greatest(radix), "0", "10");
        edge.taken(1, "set", 2, 1, radix - 1).holds(Scene.greatest(radix), "0", most + "0");
        edge.taken(0, "set", 2, 0, radix - 1).holds(Scene.greatest(radix), "0", "1" + most);
    }

    private static void setOrder(int radix) {
        Edge edge = Edge.among("Terms, set: the tests are made in the order named", radix);
        edge.refused(-1, "set", 4, 24, 1).refused(-1, "set", -1, -1, 1);
        edge.refused(-1, "set", 4, 0, radix).refused(-1, "set", -1, 0, -1);
        edge.refused(-1, "set", 4, 24, radix).refused(-1, "set", -1, -1, -1);
        edge.refused(-2, "set", 0, 24, radix).refused(-2, "set", 3, -1, -1);
    }

    private static void shiftRegister(int radix) {
        String sentence = "Promise 4, shift: -1 if a is not good";
        Edge edge = new Edge(sentence, radix, "11", "1", "1", "11");
        edge.taken(0, "shift", 0, 1).holds("110", "1", "1", "11");
        edge.taken(1, "shift", 3, -1).holds("11", "1", "1", "1");
        for (int a : Scene.NOT_REGISTERS) {
            Edge.among(sentence, radix).refused(-1, "shift", a, 1).refused(-1, "shift", a, 0);
        }
    }

    private static void shiftPlaces(int radix) {
        String sentence = "Promise 4, shift: -2 if places is not in -24 .. 24";
        Edge edge = new Edge(sentence, radix, "101", "1", "1", "101");
        edge.taken(2, "shift", 0, 24).holds("0", "1", "1", "101");
        edge.taken(2, "shift", 3, -24).holds("101", "1", "1", "0");
        int[] notShifts = {25, -25, 26, -26, Edge.MIN, Edge.MAX};
        for (int places : notShifts) {
            for (int a = 0; a < Scene.REGISTERS; a++) {
                Edge.among(sentence, radix).refused(-2, "shift", a, places);
            }
        }
    }

    private static void shiftUpOutOfTheEnd(int radix) {
        String sentence = "Promise 4, shift: digits that would go out at either end are lost (up)";
        String most = Integer.toString(radix - 1, radix);
        for (int length = 1; length <= Scene.PLACES; length++) {
            Edge edge = new Edge(sentence, radix, "1", most.repeat(length), "1");
            int room = Scene.PLACES - length;
            edge.taken(0, "shift", 1, room).holds("1", most.repeat(length) + "0".repeat(room), "1");
            String left = length == 1 ? "0" : most.repeat(length - 1) + "0".repeat(room + 1);
            edge.taken(1, "shift", 1, room + 1).holds("1", left, "1");
        }
    }

    private static void shiftDownOutOfTheEnd(int radix) {
        String sentence = "Promise 4, shift: digits that would go out at either end are lost (down)";
        for (int zeros = 0; zeros < Scene.PLACES; zeros++) {
            Edge edge = new Edge(sentence, radix, "1", Scene.one(zeros), "1");
            edge.taken(0, "shift", 1, -zeros).holds("1", "1", "1");
            edge.taken(1, "shift", 1, -zeros - 1).holds("1", "0", "1");
        }
    }

    private static void shiftNewDigitsAreZero(int radix) {
        String sentence = "Promise 4, shift: new ones are 0";
        String most = Integer.toString(radix - 1, radix);
        String greatest = Scene.greatest(radix);
        Edge edge = new Edge(sentence, radix, greatest, greatest, greatest);
        edge.taken(0, "shift", 1, 0).holds(greatest, greatest, greatest);
        for (int places = 1; places < Scene.PLACES; places++) {
            String kept = most.repeat(Scene.PLACES - places);
            edge.taken(places, "shift", 1, places).holds(greatest, kept + "0".repeat(places), greatest);
            edge.taken(places, "shift", 1, -places).holds(greatest, kept, greatest);
        }
    }

    private static void shiftCountsDigitsThatWereNotZero(int radix) {
        String sentence = "Promise 4, shift: answers how many digits that were not 0 were lost";
        Edge full = new Edge(sentence, radix, Scene.greatest(radix));
        full.taken(24, "shift", 0, 24).holds();
        full.taken(24, "shift", 0, -24).holds();
        Edge empty = new Edge(sentence, radix);
        empty.taken(0, "shift", 0, 24).holds();
        empty.taken(0, "shift", 0, -24).holds();
        Edge gaps = new Edge(sentence, radix, "100101000000000000101001");
        gaps.taken(2, "shift", 0, 4).holds("1000000000000101001" + "0000");
        gaps.taken(2, "shift", 0, -4).holds("10010100000000000010");
        gaps.taken(6, "shift", 0, 24).holds();
        gaps.taken(6, "shift", 0, -24).holds();
    }

    private static void shiftOrder(int radix) {
        Edge edge = Edge.among("Terms, shift: the tests are made in the order named", radix);
        edge.refused(-1, "shift", 4, 25).refused(-1, "shift", -1, -25);
        edge.refused(-1, "shift", Edge.MAX, Edge.MIN);
    }

    private static void feedRegister(int radix) {
        String sentence = "Promise 5, feed: -1 if a is not good";
        Edge edge = new Edge(sentence, radix, "10", "1", "1", "10");
        edge.taken(0, "feed", 0, 1).holds("101", "1", "1", "10");
        edge.taken(0, "feed", 3, 1).holds("10", "1", "1", "101");
        for (int a : Scene.NOT_REGISTERS) {
            Edge.among(sentence, radix).refused(-1, "feed", a, 1).refused(-1, "feed", a, 0);
        }
    }

    private static void feedDigit(int radix) {
        String sentence = "Promise 5, feed: -2 if digit is not in 0 .. R-1";
        Edge edge = new Edge(sentence, radix, "1", "11", "1");
        edge.taken(0, "feed", 1, 0).holds("1", "110", "1");
        edge.taken(0, "feed", 1, radix - 1).holds("1", "11" + Integer.toString(radix - 1, radix), "1");
        for (int digit : notDigits(radix)) {
            for (int a = 0; a < Scene.REGISTERS; a++) {
                Edge.among(sentence, radix).refused(-2, "feed", a, digit);
            }
        }
    }

    private static void feedLosesDigit23(int radix) {
        String sentence = "Promise 5, feed: otherwise answers the digit 23 that was lost";
        String most = Integer.toString(radix - 1, radix);
        Edge empty = new Edge(sentence, radix, "1", "0", "1");
        empty.taken(0, "feed", 1, 0).holds("1", "0", "1");
        Edge fits = new Edge(sentence, radix, "1", most.repeat(23), "1");
        fits.taken(0, "feed", 1, 0).holds("1", most.repeat(23) + "0", "1");
        Edge last = new Edge(sentence, radix, "1", Scene.one(23), "1");
        last.taken(1, "feed", 1, 0).holds("1", "0", "1");
        last.taken(1, "feed", 1, radix - 1).holds("1", most, "1");
        Edge full = new Edge(sentence, radix, "1", Scene.greatest(radix), "1");
        full.taken(radix - 1, "feed", 1, radix - 1).holds("1", Scene.greatest(radix), "1");
        full.taken(radix - 1, "feed", 1, 0).holds("1", most.repeat(23) + "0", "1");
    }

    private static void feedOrder(int radix) {
        Edge edge = Edge.among("Terms, feed: the tests are made in the order named", radix);
        edge.refused(-1, "feed", 4, radix).refused(-1, "feed", -1, -1);
        edge.refused(-1, "feed", Edge.MAX, Edge.MIN);
    }

    private static void copyRegisters(int radix) {
        String sentence = "Promise 6, copy: -1 if a or b is not good";
        String greatest = Scene.greatest(radix);
        Edge edge = new Edge(sentence, radix, greatest, "1", "10", "0");
        edge.taken(0, "copy", 0, 3).holds("0", "1", "10", "0");
        edge.taken(0, "copy", 3, 0).holds(greatest, "1", "10", greatest);
        edge.taken(0, "copy", 0, 0).holds(greatest, "1", "10", "0");
        edge.taken(0, "copy", 3, 3).holds(greatest, "1", "10", "0");
        for (int bad : Scene.NOT_REGISTERS) {
            for (int good = 0; good < Scene.REGISTERS; good++) {
                edge.refused(-1, "copy", bad, good).refused(-1, "copy", good, bad);
            }
            edge.refused(-1, "copy", bad, bad);
        }
        edge.refused(-1, "copy", 4, -1).refused(-1, "copy", -1, 4);
    }
}
