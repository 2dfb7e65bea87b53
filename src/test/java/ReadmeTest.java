import java.io.IOException;
import java.nio.file.Files;
import java.nio.file.Path;
import java.util.ArrayList;
import java.util.List;
import java.util.Set;
import java.util.TreeSet;
import java.util.regex.Matcher;
import java.util.regex.Pattern;

/**
 * README.md's example answers as it says: its lines are read, and each call is
 * made. To be run from the root of the project, as .ci/run does.
 */
public final class ReadmeTest {
    private static final Pattern MAKING =
        Pattern.compile("OrderedResolver x = new OrderedResolver\\((-?\\d+)\\);");
    private static final Pattern CALL =
        Pattern.compile("x\\.(\\w+)\\(([-\\d, ]*)\\); +// ([-\\w]+)(: .+)?");
    private static final Set<String> METHODS = Set.of("add", "retract", "size", "implied",
        "primes", "prime", "primeWithin", "models", "leastModel", "redundant");

    private static final Due due = new Due();

    public static void main(String[] args) throws IOException {
        List<String> example = example(Files.readAllLines(Path.of("README.md")));
        due.test("README.md's example", () -> answersAsItSays(example));
        due.end();
    }

    private static List<String> example(List<String> readme) {
        int start = readme.indexOf("```java") + 1;
        int length = readme.subList(start, readme.size()).indexOf("```");
        due.is("README.md has one example in Java",
            start > 0 && length > 0 && readme.lastIndexOf("```java") == start - 1, true);
        return new ArrayList<>(readme.subList(start, start + Math.max(length, 0)));
    }

    private static void answersAsItSays(List<String> example) {
        Matcher making = MAKING.matcher(example.get(0));
        due.is("makes an object: " + example.get(0), making.matches(), true);
        OrderedResolver x = new OrderedResolver(Integer.parseInt(making.group(1)));
        Set<String> used = new TreeSet<>();
        for (String line : example.subList(1, example.size())) {
            Matcher call = CALL.matcher(line);
            due.is("a call and its answer: " + line, call.matches(), true);
            used.add(call.group(1));
            due.is(line, answer(x, call.group(1), numbers(call.group(2))), said(call.group(3)));
        }
        due.is("has each of the ten methods", used.equals(METHODS), true);
    }

    private static int[] numbers(String arguments) {
        String[] parts = arguments.isEmpty() ? new String[0] : arguments.split(", ");
        int[] numbers = new int[parts.length];
        for (int i = 0; i < parts.length; i++) {
            numbers[i] = Integer.parseInt(parts[i]);
        }
        return numbers;
    }

    private static long said(String answer) {
        return switch (answer) {
            case "BAD" -> -1;
            case "NONE" -> -2;
            case "FULL" -> -3;
            case "true" -> 1;
            case "false" -> 0;
            default -> Long.parseLong(answer);
        };
    }

    private static long answer(OrderedResolver x, String method, int[] arguments) {
        return switch (method) {
            case "add" -> x.add(arguments[0]);
            case "retract" -> x.retract(arguments[0]);
            case "size" -> x.size();
            case "implied" -> x.implied(arguments[0]) ? 1 : 0;
            case "primes" -> x.primes();
            case "prime" -> x.prime(arguments[0]);
            case "primeWithin" -> x.primeWithin(arguments[0]);
            case "models" -> x.models();
            case "leastModel" -> x.leastModel(arguments[0], arguments[1]);
            case "redundant" -> x.redundant();
            default -> throw new IllegalArgumentException("no such method: " + method);
        };
    }
}
