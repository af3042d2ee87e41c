/** Every method with every mixture of arguments at and beyond their bounds, held against the model's answers. */
public final class EdgeGridTest {
    private static final int[] REGISTERS = {Edge.MIN, -1, 0, 1, 3, 4, Edge.MAX};
    private static final int[] PLACES = {Edge.MIN, -1, 0, 1, 23, 24, Edge.MAX};
    private static final int[] SHIFTS = {Edge.MIN, -25, -24, -1, 0, 1, 24, 25, Edge.MAX};
    private static final int[] EXPONENTS = {Edge.MIN, -1, 0, 1, 2, 23, 24, 100, 101, Edge.MAX};
    private static final int[] OTHERS = {Edge.MIN, -1, 0, 1, 2, 10, 36, 37, Edge.MAX};
    private static final int[] PLACES_IN = {Edge.MIN, -1, 0, 1, 127, 128, Edge.MAX};
    private static final int[] MODULI = {Edge.MIN, -1, 0, 1, 2, 999983, 1000000, 1000001, Edge.MAX};

    private static final int[] RADICES = {2, 3, 10, 17, 35, 36};

    // Empty, full, and a mixture; every one can be read in every radix.
    private static final int EMPTY = 0;
    private static final int FULL = 1;
    private static final int STATES = 3;

    private final int radix;
    private final int state;

    private EdgeGridTest(int radix, int state) {
        this.radix = radix;
        this.state = state;
    }

    public static void main(String[] args) {
        for (int radix : RADICES) {
            for (int state = 0; state < STATES; state++) {
                new EdgeGridTest(radix, state).everyMethod();
            }
        }
        Scene.end();
    }

    private void everyMethod() {
        int[] digits = {Edge.MIN, -1, 0, 1, radix - 1, radix, Edge.MAX};
        grid("radix");
        grid("set", REGISTERS, PLACES, digits);
        grid("shift", REGISTERS, SHIFTS);
        grid("feed", REGISTERS, digits);
        String[] ofTwoRegisters = {"copy", "add", "subtract", "multiply", "multiplyLow", "divisor", "compare"};
        for (String method : ofTwoRegisters) {
            grid(method, REGISTERS, REGISTERS);
        }
        grid("divide", REGISTERS, REGISTERS, REGISTERS);
        grid("root", REGISTERS);
        grid("power", REGISTERS, EXPONENTS);
        grid("digit", REGISTERS, PLACES);
        grid("length", REGISTERS);
        grid("digitIn", REGISTERS, OTHERS, PLACES_IN);
        grid("lengthIn", REGISTERS, OTHERS);
        grid("remainder", REGISTERS, MODULI);
    }

    private void grid(String method, int[]... choices) {
        int mixtures = 1;
        for (int[] choice : choices) {
            mixtures *= choice.length;
        }
        for (int mixture = 0; mixture < mixtures; mixture++) {
            int[] arguments = new int[choices.length];
            int left = mixture;
            for (int k = 0; k < choices.length; k++) {
                arguments[k] = choices[k][left % choices[k].length];
                left /= choices[k].length;
            }
            one(new Call(method, arguments));
        }
    }

    private void one(Call call) {
        RadixBig big = new RadixBig(radix);
        Model model = new Model(radix);
        fill(big, model);
        String told = "radix " + radix + ", state " + state + ": " + call;
        int got = call.on(big);
        int want = call.on(model);
        Scene.check(told + " answered " + got + ", due is " + want, got == want);
        for (int a = 0; a < Scene.REGISTERS; a++) {
            for (int i = 0; i < Scene.PLACES; i++) {
                boolean same = big.digit(a, i) == model.digit(a, i);
                Scene.check(same ? "" : told + ": digit " + i + " of register " + a, same);
            }
        }
    }

    private void fill(RadixBig big, Model model) {
        for (int a = 0; a < Scene.REGISTERS; a++) {
            for (int i = 0; i < Scene.PLACES; i++) {
                int digit = digitAtFirst(a, i);
                big.set(a, i, digit);
                model.set(a, i, digit);
            }
        }
    }

    // The mixture: a long number, a short one, one of middle length, and 0, which stands last.
    private int digitAtFirst(int a, int i) {
        if (state == EMPTY) {
            return 0;
        }
        if (state == FULL) {
            return radix - 1;
        }
        int[] lengths = {24, 2, 12, 0};
        return i < lengths[a] ? (i * 5 + a + 1) % (radix - 1) + (i + 1 == lengths[a] ? 1 : 0) : 0;
    }
}
