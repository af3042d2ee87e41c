import java.io.IOException;
import java.lang.reflect.Method;
import java.lang.reflect.Modifier;
import java.math.BigInteger;
import java.nio.file.DirectoryStream;
import java.nio.file.Files;
import java.nio.file.Path;
import java.util.Set;
import java.util.TreeSet;
import java.util.regex.MatchResult;
import java.util.regex.Matcher;
import java.util.regex.Pattern;
import java.util.stream.Collectors;

/** README.md says what is true: the answers of its example, the calls of its table, the tests it lists. */
public final class ReadmeTest {
    private static final Pattern MADE = Pattern.compile("new RadixBig\\((\\d+)\\)");
    private static final Pattern CALL = Pattern.compile("big\\.(\\w+)\\((.*)\\); *// (-?\\d+)(.*)");
    private static final Pattern HELD = Pattern.compile("register (\\d) is (\\d+)");
    private static final Pattern ROW = Pattern.compile("(?m)^\\| `(\\w+)\\((.*?)\\)` \\|");
    private static final Pattern TEST = Pattern.compile("(?m)^\\| `(\\w+Test)` \\|");

    public static void main(String[] args) throws IOException {
        String readme = Files.readString(Path.of("README.md"));
        exampleAnswersAsTold(readme);
        tableHasTheFace(readme);
        testsAreListed(readme);
        Scene.end();
    }

    private static void exampleAnswersAsTold(String readme) {
        Matcher made = MADE.matcher(readme);
        Scene.check("the example makes an object", made.find());
        int radix = Integer.parseInt(made.group(1));
        RadixBig big = new RadixBig(radix);
        Matcher line = CALL.matcher(readme);
        int calls = 0;
        while (line.find()) {
            Call call = new Call(line.group(1), numbersOf(line.group(2)));
            Scene.check(line.group() + " is not so", call.on(big) == Integer.parseInt(line.group(3)));
            Matcher held = HELD.matcher(line.group(4));
            while (held.find()) {
                int a = Integer.parseInt(held.group(1));
                Scene.check(line.group() + " is not so", valueOf(big, a).equals(new BigInteger(held.group(2))));
            }
            calls++;
        }
        Scene.check("the example has calls", calls > 0);
    }

    private static int[] numbersOf(String arguments) {
        return Pattern.compile("-?\\d+").matcher(arguments).results()
                .map(MatchResult::group).mapToInt(Integer::parseInt).toArray();
    }

    private static BigInteger valueOf(RadixBig big, int a) {
        BigInteger value = BigInteger.ZERO;
        for (int i = Scene.PLACES - 1; i >= 0; i--) {
            value = value.multiply(BigInteger.valueOf(big.radix())).add(BigInteger.valueOf(big.digit(a, i)));
        }
        return value;
    }

    private static void tableHasTheFace(String readme) {
        Set<String> told = ROW.matcher(readme).results()
                .map(row -> row.group(1) + "/" + (row.group(2).isEmpty() ? 0 : row.group(2).split(",").length))
                .collect(Collectors.toCollection(TreeSet::new));
        Set<String> face = new TreeSet<>();
        for (Method method : RadixBig.class.getDeclaredMethods()) {
            if (Modifier.isPublic(method.getModifiers())) {
                face.add(method.getName() + "/" + method.getParameterCount());
            }
        }
        Scene.check("README.md has the calls " + told + ", the class " + face, told.equals(face));
    }

    private static void testsAreListed(String readme) throws IOException {
        Set<String> told = TEST.matcher(readme).results().map(row -> row.group(1))
                .collect(Collectors.toCollection(TreeSet::new));
        Set<String> present = new TreeSet<>();
        try (DirectoryStream<Path> files = Files.newDirectoryStream(Path.of("src/test/java"), "*Test.java")) {
            for (Path file : files) {
                present.add(file.getFileName().toString().replace(".java", ""));
            }
        }
        Scene.check("README.md lists the tests " + told + ", there are " + present, told.equals(present));
    }
}
