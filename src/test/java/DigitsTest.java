/** Promises 3 to 6 and 15 to 17: set, shift, feed, copy, digit, length, compare. */
public final class DigitsTest {
    public static void main(String[] args) {
        set();
        setRefuses();
        shift();
        shiftLoses();
        shiftRefuses();
        feed();
        feedRefuses();
        copy();
        copyRefuses();
        digit();
        length();
        compare();
        compareRefuses();
        Scene.end();
    }

    private static void set() {
        Scene s = new Scene(10, "123");
        s.due("set(0, 0, 9)", s.big.set(0, 0, 9), 3);
        s.due("set(0, 0, 0)", s.big.set(0, 0, 0), 9);
        s.due("set(0, 23, 4)", s.big.set(0, 23, 4), 0);
        s.due("set(3, 22, 5)", s.big.set(3, 22, 5), 0);
        s.due("set(3, 22, 5)", s.big.set(3, 22, 5), 5);
        s.holds("400000000000000000000120", "0", "0", Scene.one(22).replace('1', '5'));

        Scene all = new Scene(36);
        for (int a = 0; a < 4; a++) {
            for (int i = 0; i < 24; i++) {
                all.due("set(" + a + ", " + i + ", ..)", all.big.set(a, i, a * 9 + i % 9), 0);
            }
        }
        for (int a = 0; a < 4; a++) {
            for (int i = 0; i < 24; i++) {
                all.due("digit(" + a + ", " + i + ")", all.big.digit(a, i), a * 9 + i % 9);
            }
        }
    }

    private static void setRefuses() {
        Scene s = new Scene(7, "12", "34", "56", "65");
        for (int a : Scene.NOT_REGISTERS) {
            s.due("set(" + a + ", 0, 1)", s.big.set(a, 0, 1), -1);
            s.due("set(" + a + ", 24, 7)", s.big.set(a, 24, 7), -1);
        }
        int[] notPlaces = {-1, 24, 25, Integer.MIN_VALUE, Integer.MAX_VALUE};
        for (int i : notPlaces) {
            s.due("set(1, " + i + ", 1)", s.big.set(1, i, 1), -2);
            s.due("set(3, " + i + ", -1)", s.big.set(3, i, -1), -2);
        }
        int[] notDigits = {-1, 7, 8, Integer.MIN_VALUE, Integer.MAX_VALUE};
        for (int digit : notDigits) {
            s.due("set(0, 23, " + digit + ")", s.big.set(0, 23, digit), -3);
        }
        s.holds("12", "34", "56", "65");
    }

    private static void shift() {
        Scene up = new Scene(10, "1", "1203", "2", "3");
        up.due("shift(1, 4)", up.big.shift(1, 4), 0);
        up.holds("1", "12030000", "2", "3");

        Scene down = new Scene(10, "1", "1203", "2", "3");
        down.due("shift(1, -1)", down.big.shift(1, -1), 1);
        down.due("shift(1, -1)", down.big.shift(1, -1), 0);
        down.holds("1", "12", "2", "3");

        Scene none = new Scene(36, "zyx", "10", Scene.greatest(36));
        none.due("shift(0, 0)", none.big.shift(0, 0), 0);
        none.due("shift(2, 0)", none.big.shift(2, 0), 0);
        none.holds("zyx", "10", Scene.greatest(36));

        Scene far = new Scene(2, "1", "0", "0", Scene.one(23));
        far.due("shift(0, 23)", far.big.shift(0, 23), 0);
        far.due("shift(3, -23)", far.big.shift(3, -23), 0);
        far.holds(Scene.one(23), "0", "0", "1");
    }

    private static void shiftLoses() {
        Scene up = new Scene(10, "987060000000000000000001");
        up.due("shift(0, 2)", up.big.shift(0, 2), 2);
        up.holds("706000000000000000000100");
        up.due("shift(0, 24)", up.big.shift(0, 24), 3);
        up.holds();

        Scene down = new Scene(10, "987060000000000000000041");
        down.due("shift(0, -20)", down.big.shift(0, -20), 3);
        down.holds("9870");
        down.due("shift(0, -24)", down.big.shift(0, -24), 3);
        down.holds();

        Scene all = new Scene(3, Scene.greatest(3), Scene.greatest(3));
        all.due("shift(0, 24)", all.big.shift(0, 24), 24);
        all.due("shift(1, -24)", all.big.shift(1, -24), 24);
        all.due("shift(2, 24)", all.big.shift(2, 24), 0);
        all.holds();
    }

    private static void shiftRefuses() {
        Scene s = new Scene(10, "1203", "4", "5", "6");
        for (int a : Scene.NOT_REGISTERS) {
            s.due("shift(" + a + ", 1)", s.big.shift(a, 1), -1);
            s.due("shift(" + a + ", 25)", s.big.shift(a, 25), -1);
        }
        int[] notShifts = {25, -25, 48, Integer.MIN_VALUE, Integer.MAX_VALUE};
        for (int places : notShifts) {
            s.due("shift(0, " + places + ")", s.big.shift(0, places), -2);
        }
        s.holds("1203", "4", "5", "6");
    }

    private static void feed() {
        Scene s = new Scene(36, "1", "yz", "2", "923456789012345678901234");
        s.due("feed(1, 35)", s.big.feed(1, 35), 0);
        s.due("feed(1, 0)", s.big.feed(1, 0), 0);
        s.due("feed(3, 10)", s.big.feed(3, 10), 9);
        s.due("feed(3, 11)", s.big.feed(3, 11), 2);
        s.holds("1", "yzz0", "2", "3456789012345678901234ab");
        s.due("feed(0, 0)", s.big.feed(0, 0), 0);
        s.due("feed(2, 1)", s.big.feed(2, 1), 0);
        s.holds("10", "yzz0", "21", "3456789012345678901234ab");
    }

    private static void feedRefuses() {
        Scene s = new Scene(2, "1", "10", "11", "100");
        for (int a : Scene.NOT_REGISTERS) {
            s.due("feed(" + a + ", 1)", s.big.feed(a, 1), -1);
            s.due("feed(" + a + ", 2)", s.big.feed(a, 2), -1);
        }
        int[] notDigits = {-1, 2, 3, Integer.MIN_VALUE, Integer.MAX_VALUE};
        for (int digit : notDigits) {
            s.due("feed(0, " + digit + ")", s.big.feed(0, digit), -2);
        }
        s.holds("1", "10", "11", "100");
    }

    private static void copy() {
        Scene s = new Scene(16, "12", Scene.greatest(16), "ab", "cd");
        s.due("copy(0, 3)", s.big.copy(0, 3), 0);
        s.holds("cd", Scene.greatest(16), "ab", "cd");
        s.due("copy(2, 1)", s.big.copy(2, 1), 0);
        s.due("copy(1, 0)", s.big.copy(1, 0), 0);
        s.due("copy(3, 3)", s.big.copy(3, 3), 0);
        s.holds("cd", "cd", Scene.greatest(16), "cd");
        s.due("set(1, 0, 0)", s.big.set(1, 0, 0), 13);
        s.holds("cd", "c0", Scene.greatest(16), "cd");
    }

    private static void copyRefuses() {
        Scene s = new Scene(16, "12", "34", "56", "78");
        for (int bad : Scene.NOT_REGISTERS) {
            s.due("copy(" + bad + ", 0)", s.big.copy(bad, 0), -1);
            s.due("copy(0, " + bad + ")", s.big.copy(0, bad), -1);
            s.due("copy(" + bad + ", " + bad + ")", s.big.copy(bad, bad), -1);
        }
        s.holds("12", "34", "56", "78");
    }

    private static void digit() {
        Scene s = new Scene(12, "b0a", "1", "2", Scene.greatest(12));
        s.due("digit(0, 0)", s.big.digit(0, 0), 10);
        s.due("digit(0, 1)", s.big.digit(0, 1), 0);
        s.due("digit(0, 2)", s.big.digit(0, 2), 11);
        s.due("digit(0, 23)", s.big.digit(0, 23), 0);
        s.due("digit(3, 23)", s.big.digit(3, 23), 11);
        for (int a : Scene.NOT_REGISTERS) {
            s.due("digit(" + a + ", 0)", s.big.digit(a, 0), -1);
            s.due("digit(" + a + ", 24)", s.big.digit(a, 24), -1);
        }
        int[] notPlaces = {-1, 24, 25, Integer.MIN_VALUE, Integer.MAX_VALUE};
        for (int i : notPlaces) {
            s.due("digit(0, " + i + ")", s.big.digit(0, i), -2);
            s.due("digit(3, " + i + ")", s.big.digit(3, i), -2);
        }
        s.holds("b0a", "1", "2", Scene.greatest(12));
    }

    private static void length() {
        Scene s = new Scene(5, "0", "1", "4003", Scene.greatest(5));
        s.due("length(0)", s.big.length(0), 0);
        s.due("length(1)", s.big.length(1), 1);
        s.due("length(2)", s.big.length(2), 4);
        s.due("length(3)", s.big.length(3), 24);
        for (int a : Scene.NOT_REGISTERS) {
            s.due("length(" + a + ")", s.big.length(a), -1);
        }
        s.holds("0", "1", "4003", Scene.greatest(5));

        for (int i = 0; i < 24; i++) {
            Scene power = new Scene(5, "3", Scene.one(i), "44");
            power.due("length(1)", power.big.length(1), i + 1);
        }
    }

    private static void compare() {
        Scene s = new Scene(10, "129", "130", "130", Scene.greatest(10));
        s.due("compare(0, 1)", s.big.compare(0, 1), 2);
        s.due("compare(1, 0)", s.big.compare(1, 0), 1);
        s.due("compare(1, 2)", s.big.compare(1, 2), 0);
        s.due("compare(2, 2)", s.big.compare(2, 2), 0);
        s.due("compare(3, 2)", s.big.compare(3, 2), 1);
        s.due("compare(2, 3)", s.big.compare(2, 3), 2);
        s.holds("129", "130", "130", Scene.greatest(10));

        Scene zero = new Scene(2, "0", "0", "1", Scene.one(23));
        zero.due("compare(0, 1)", zero.big.compare(0, 1), 0);
        zero.due("compare(0, 2)", zero.big.compare(0, 2), 2);
        zero.due("compare(3, 2)", zero.big.compare(3, 2), 1);
        zero.due("compare(2, 3)", zero.big.compare(2, 3), 2);
    }

    private static void compareRefuses() {
        Scene s = new Scene(10, "1", "2");
        for (int bad : Scene.NOT_REGISTERS) {
            s.due("compare(" + bad + ", 0)", s.big.compare(bad, 0), -1);
            s.due("compare(0, " + bad + ")", s.big.compare(0, bad), -1);
            s.due("compare(" + bad + ", " + bad + ")", s.big.compare(bad, bad), -1);
        }
        s.holds("1", "2");
    }
}
