import java.io.IOException;
import java.lang.reflect.Method;
import java.lang.reflect.Modifier;
import java.nio.file.Files;
import java.nio.file.Path;
import java.util.regex.Matcher;
import java.util.regex.Pattern;

/** Every call in README.md's example answers what the comment beside it begins with, and the table has every method. */
public final class ReadmeTest {
    private static final Pattern LINE = Pattern.compile("x\\.(\\w+)\\(([-\\d, ]*)\\);\\s*// ([-\\w]+).*");

    private static int wrong = 0;

    public static void main(String[] args) throws Exception {
        String text = Files.readString(Path.of("README.md"));
        example(text.substring(text.indexOf("```java"), text.lastIndexOf("```")));
        table(text);
        System.out.println(wrong == 0 ? "README.md tells what is so" : wrong + " faults in README.md");
        if (wrong != 0) {
            System.exit(1);
        }
    }

    private static void fault(boolean is, String what) {
        if (is) {
            wrong++;
            System.out.println("README.md: " + what);
        }
    }

    private static void example(String block) throws Exception {
        PolicySolver x = new PolicySolver();
        int calls = 0;
        for (String line : block.split("\n")) {
            if (line.startsWith("x.")) {
                calls++;
                Matcher call = LINE.matcher(line);
                if (call.matches()) {
                    String got = String.valueOf(answer(x, call.group(1), call.group(2)));
                    fault(!got.equals(call.group(3)), line + " but the answer is " + got);
                } else {
                    fault(true, "no answer can be read in " + line);
                }
            }
        }
        fault(calls == 0, "the example has no call");
    }

    private static Object answer(PolicySolver x, String name, String numbers) throws Exception {
        String[] parts = numbers.isBlank() ? new String[0] : numbers.split(",");
        Object[] values = new Object[parts.length];
        Class<?>[] types = new Class<?>[parts.length];
        for (int i = 0; i < parts.length; i++) {
            values[i] = Integer.valueOf(parts[i].trim());
            types[i] = int.class;
        }
        return PolicySolver.class.getMethod(name, types).invoke(x, values);
    }

    private static void table(String text) throws IOException {
        for (Method m : PolicySolver.class.getDeclaredMethods()) {
            String head = "| `" + m.getReturnType() + " " + m.getName() + "(";
            fault(Modifier.isPublic(m.getModifiers()) && !text.contains(head), "the table has no " + m.getName());
        }
        fault(!text.contains("`PolicySolver.BAD` is " + PolicySolver.BAD), "it does not say what BAD is");
    }
}
