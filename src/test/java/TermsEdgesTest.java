import java.math.BigInteger;
import java.util.List;

/** The boundaries of Terms, on which every promise rests; a method here is one sentence of the document. */
public final class TermsEdgesTest {
    private static final List<Call> QUESTIONS = List.of(
            new Call("radix"), new Call("digit", 0, 23), new Call("digit", 3, 0), new Call("length", 0),
            new Call("length", 3), new Call("compare", 0, 3), new Call("compare", 3, 0), new Call("compare", 1, 1),
            new Call("digitIn", 0, 2, 127), new Call("digitIn", 3, 36, 0), new Call("lengthIn", 0, 2),
            new Call("lengthIn", 3, 36), new Call("remainder", 0, 1), new Call("remainder", 1, 1000000));

    public static void main(String[] args) {
        for (int radix = 2; radix <= 36; radix++) {
            registersGoFromZeroToTheGreatest(radix);
            digitIsWorthItsPowerOfTheRadix(radix);
            allAreZeroAtFirst(radix);
            noQuestionChangesAnything(radix);
            refusedCallChangesNothing(radix);
            registerIsGoodFrom0To3(radix);
            lastPromisedCall(radix);
        }
        Scene.end();
    }

    private static void registersGoFromZeroToTheGreatest(int radix) {
        String sentence = "Terms: each register holds a whole number from 0 to R^24 - 1";
        String greatest = Scene.greatest(radix);
        Edge full = new Edge(sentence, radix, greatest, greatest, greatest, greatest);
        Edge next = new Edge(sentence, radix, greatest, "1", "0", greatest);
        full.answered(24, "length", 0).answered(24, "length", 3);
        next.refused(-2, "add", 0, 1).refused(-2, "add", 3, 1);
        Edge empty = new Edge(sentence, radix, "0", "1", greatest, "0");
        empty.answered(0, "length", 0).answered(0, "length", 3);
        empty.refused(-2, "subtract", 0, 1).refused(-2, "subtract", 3, 1);
    }

    private static void digitIsWorthItsPowerOfTheRadix(int radix) {
        String sentence = "Terms: digit 0 is the last one (worth 1), digit i is worth R^i";
        for (int i = 0; i < Scene.PLACES; i++) {
            BigInteger worth = Edge.power(radix, i);
            Scene s = new Edge(sentence, radix, "1", "10").taken(0, "power", 1, i);
            s.due("set(2, " + i + ", 1)", s.big.set(2, i, 1), 0);
            s.due("compare(1, 2)", s.big.compare(1, 2), 0);
            int rest = worth.mod(BigInteger.valueOf(999983)).intValue();
            s.due("remainder(2, 999983)", s.big.remainder(2, 999983), rest);
        }
    }

    private static void allAreZeroAtFirst(int radix) {
        Scene s = new Scene(radix).about("Terms: all are 0 at first");
        s.holds();
        for (int a = 0; a < Scene.REGISTERS; a++) {
            s.due("length(" + a + ")", s.big.length(a), 0);
            s.due("lengthIn(" + a + ", 2)", s.big.lengthIn(a, 2), 0);
            s.due("compare(" + a + ", 0)", s.big.compare(a, 0), 0);
        }
    }

    /** All of them on one object: what one leaves behind may show only in the next. */
    private static void noQuestionChangesAnything(int radix) {
        String[] numbers = Edge.mixture(radix);
        Scene s = new Scene(radix, numbers).about("Terms: no question changes anything");
        int[] answers = new int[QUESTIONS.size()];
        for (int k = 0; k < answers.length; k++) {
            answers[k] = QUESTIONS.get(k).on(s.big);
        }
        for (int k = answers.length - 1; k >= 0; k--) {
            s.due(QUESTIONS.get(k) + " again", QUESTIONS.get(k).on(s.big), answers[k]);
        }
        s.holds(numbers);
    }

    /** One refusal of every kind, all on one object. */
    private static void refusedCallChangesNothing(int radix) {
        String[] numbers = Edge.mixture(radix);
        Scene s = new Scene(radix, numbers).about("Terms: a refused call changes nothing");
        refuse(s, -1, new Call("set", 4, 0, 1), new Call("shift", 4, 1), new Call("feed", 4, 1),
                new Call("copy", 4, 0), new Call("copy", 0, 4), new Call("add", 4, 0), new Call("add", 1, 4),
                new Call("subtract", 4, 0), new Call("subtract", 0, 4), new Call("multiply", 4, 0),
                new Call("multiply", 1, 4), new Call("multiplyLow", 4, 0), new Call("multiplyLow", 1, 4),
                new Call("divide", 4, 0, 1), new Call("divide", 2, 4, 1), new Call("divide", 2, 0, 4),
                new Call("root", 4), new Call("power", 4, 2), new Call("divisor", 4, 0), new Call("divisor", 1, 4));
        refuse(s, -2, new Call("set", 0, 24, 1), new Call("shift", 0, 25), new Call("feed", 0, radix),
                new Call("add", 0, 3), new Call("add", 3, 0), new Call("add", 0, 0), new Call("subtract", 1, 0),
                new Call("subtract", 2, 3), new Call("multiply", 0, 1), new Call("multiply", 1, 0),
                new Call("multiply", 0, 0), new Call("divide", 0, 0, 1), new Call("divide", 1, 0, 1),
                new Call("divide", 0, 1, 1), new Call("power", 3, 101), new Call("power", 3, -1));
        refuse(s, -3, new Call("set", 0, 0, radix), new Call("set", 0, 0, -1), new Call("divide", 3, 0, 2),
                new Call("divide", 0, 1, 2), new Call("power", 0, 2), new Call("power", 3, 100));
        s.holds(numbers);
    }

    private static void refuse(Scene s, int answer, Call... calls) {
        for (Call call : calls) {
            s.due(call.toString(), call.on(s.big), answer);
        }
    }

    private static void registerIsGoodFrom0To3(int radix) {
        Edge edge = new Edge("Terms: a register is good if it is 0 .. 3", radix, "1", "1", "1", "1");
        for (int a = 0; a < Scene.REGISTERS; a++) {
            edge.taken(1, "set", a, 0, 1).holds("1", "1", "1", "1");
            edge.taken(0, "shift", a, 0).holds("1", "1", "1", "1");
            edge.taken(0, "root", a).holds("1", "1", "1", "1");
            edge.taken(0, "power", a, 100).holds("1", "1", "1", "1");
            String[] fed = {"1", "1", "1", "1"};
            fed[a] = "11";
            edge.taken(0, "feed", a, 1).holds(fed);
            edge.answered(1, "digit", a, 0).answered(1, "length", a).answered(1, "digitIn", a, 2, 0);
            edge.answered(1, "lengthIn", a, 2).answered(1, "remainder", a, 7);
            for (int b = 0; b < Scene.REGISTERS; b++) {
                edge.taken(0, "copy", a, b).holds("1", "1", "1", "1");
                edge.taken(0, "multiply", a, b).holds("1", "1", "1", "1");
                edge.taken(0, "multiplyLow", a, b).holds("1", "1", "1", "1");
                edge.taken(0, "divisor", a, b).holds("1", "1", "1", "1");
                edge.answered(0, "compare", a, b);
                Scene s = edge.taken(0, "add", a, b);
                s.due("subtract(" + a + ", " + b + ")", s.big.subtract(a, b), 0);
            }
        }
    }

    /** A digit that one call puts in at the last place goes out at the first one 24 calls later. */
    private static void lastPromisedCall(int radix) {
        String sentence = "What it is: an object is used for at most 512 calls";
        RadixBig big = new RadixBig(radix);
        big.set(0, 0, 1);
        for (int call = 2; call < 512; call++) {
            int lost = big.feed(0, call % 2);
            Scene.check(sentence + ": call " + call, lost == (call < 25 ? 0 : call % 2));
        }
        Scene.check(sentence + ": the 512th", big.remainder(0, radix) == 1);
    }
}
