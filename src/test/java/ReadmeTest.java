import java.io.IOException;
import java.nio.file.Files;
import java.nio.file.Path;
import java.util.Set;
import java.util.TreeSet;
import java.util.regex.Matcher;
import java.util.regex.Pattern;

/** README.md: its example answers what it says, and it tells of every method. */
public final class ReadmeTest {
    private static final Path README = Path.of("README.md");
    private static final Path SOURCE = Path.of("src/main/java/TunnelNetwork.java");
    private static final Pattern EXAMPLE = Pattern.compile("(?s)```java\n(.*?)```");
    private static final Pattern CALL = Pattern.compile("net\\.(\\w+)\\(([^)]*)\\); +// (-?\\d+|[A-Z]+)(: .*)?");
    private static final Pattern SIGNATURE = Pattern.compile("public int (\\w+)\\(([^)]*)\\)");
    private static int wrong = 0;

    private static void must(boolean holds, String what) {
        if (!holds) {
            wrong++;
            System.out.println("not so: " + what);
        }
    }

    public static void main(String[] args) throws IOException {
        String readme = Files.readString(README);
        String source = Files.readString(SOURCE);
        must(example(readme).equals(listedMethods(readme, source)), "the example calls every method");
        System.out.println(wrong == 0 ? "README.md is as due" : wrong + " things are not as due");
        if (wrong != 0) {
            System.exit(1);
        }
    }

    /** Makes the example's calls, and answers the names of the methods that it calls. */
    private static Set<String> example(String readme) {
        Set<String> called = new TreeSet<>();
        Matcher block = EXAMPLE.matcher(readme);
        must(block.find(), "there is an example");
        Program net = new Program();
        String[] lines = block.group(1).split("\n");
        must(lines[0].equals("TunnelNetwork net = new TunnelNetwork();"), "the example makes an object first");
        for (int i = 1; i < lines.length; i++) {
            Matcher call = CALL.matcher(lines[i]);
            if (!call.matches()) {
                must(false, "a call with its answer: " + lines[i]);
                continue;
            }
            int got = net.call(call.group(1), arguments(call.group(2)));
            must(got == answer(call.group(3)), lines[i] + " (answered " + got + ")");
            called.add(call.group(1));
        }
        return called;
    }

    private static Set<String> listedMethods(String readme, String source) {
        Set<String> methods = new TreeSet<>();
        Matcher signature = SIGNATURE.matcher(source);
        while (signature.find()) {
            String form = signature.group(1) + "(" + signature.group(2).replace("int ", "") + ")";
            must(readme.contains("\n- `" + form + "`: "), "the list has " + form);
            methods.add(signature.group(1));
        }
        return methods;
    }

    private static int[] arguments(String text) {
        if (text.isEmpty()) {
            return new int[0];
        }
        String[] sums = text.split(",");
        int[] arguments = new int[sums.length];
        for (int i = 0; i < sums.length; i++) {
            for (String product : sums[i].split("\\+")) {
                arguments[i] += product(product);
            }
        }
        return arguments;
    }

    private static int product(String text) {
        int product = 1;
        for (String factor : text.split("\\*")) {
            product *= Integer.parseInt(factor.trim());
        }
        return product;
    }

    private static int answer(String word) {
        return switch (word) {
            case "BAD" -> -1;
            case "NONE" -> -2;
            case "EXISTS" -> -3;
            default -> Integer.parseInt(word);
        };
    }
}
