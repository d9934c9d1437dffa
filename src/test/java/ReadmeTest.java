import java.lang.reflect.Method;
import java.lang.reflect.Modifier;
import java.nio.file.Files;
import java.nio.file.Path;
import java.util.List;
import java.util.Map;
import java.util.Set;
import java.util.TreeMap;
import java.util.TreeSet;
import java.util.regex.Matcher;
import java.util.regex.Pattern;
import javax.tools.ToolProvider;

/** The example of README.md answers what it says, and its table names every call of the class. */
public final class ReadmeTest {
    private static final Path README = Path.of("README.md");
    /** int t = x.tree(0);   // 0: a TREE */
    private static final Pattern CALL = Pattern.compile("(?:int (\\w+) = )?(x\\..*\\));\\s*// (-?\\d+)\\b.*");

    /** By the call as README has it: {what it answered, what is due}. */
    public static final Map<String, int[]> ANSWERS = new TreeMap<>();

    public static void main(String[] args) throws Exception {
        String readme = Files.readString(README);
        boolean good = exampleHolds(readme) & tableIsWhole(readme);
        System.out.println(good ? "README.md tells what is so" : "README.md is wrong");
        if (!good) {
            System.exit(1);
        }
    }

    private static boolean exampleHolds(String readme) throws Exception {
        int from = readme.indexOf("```java\n") + "```java\n".length();
        String example = readme.substring(from, readme.indexOf("```", from));
        int calls = runExample(example);
        boolean good = calls > 0 && ANSWERS.size() == calls;
        for (Map.Entry<String, int[]> answer : ANSWERS.entrySet()) {
            int[] numbers = answer.getValue();
            if (numbers[0] != numbers[1]) {
                System.out.println(answer.getKey() + " answered " + numbers[0] + ", README says " + numbers[1]);
                good = false;
            }
        }
        return good;
    }

    /** Compiles the example with its answers kept, and runs it: how many are told. */
    private static int runExample(String example) throws Exception {
        StringBuilder source = new StringBuilder("final class Example { static void run() {\n");
        int calls = 0;
        for (String line : example.split("\n")) {
            Matcher told = CALL.matcher(line);
            if (told.matches()) {
                String answer = "answer" + calls;
                source.append("int ").append(answer).append(" = ").append(told.group(2)).append(";\n");
                if (told.group(1) != null) {
                    source.append("int ").append(told.group(1)).append(" = ").append(answer).append(";\n");
                }
                source.append("ReadmeTest.ANSWERS.put(\"").append(calls).append(". ").append(told.group(2))
                        .append("\", new int[] {").append(answer).append(", ").append(told.group(3)).append("});\n");
                calls++;
            } else {
                source.append(line).append('\n');
            }
        }
        Path classes = Path.of(ReadmeTest.class.getProtectionDomain().getCodeSource().getLocation().toURI());
        Path file = classes.resolve("Example.java");
        Files.writeString(file, source.append("} }\n"));
        int failed = ToolProvider.getSystemJavaCompiler().run(null, null, null, "-cp", classes.toString(),
                "-d", classes.toString(), file.toString());
        if (failed != 0) {
            System.out.println("the example does not compile");
            return 0;
        }
        Method run = Class.forName("Example").getDeclaredMethod("run");
        run.setAccessible(true);
        run.invoke(null);
        return calls;
    }

    private static boolean tableIsWhole(String readme) {
        Set<String> named = new TreeSet<>();
        for (String line : readme.split("\n")) {
            if (line.startsWith("| `")) {
                named.addAll(List.of(line.split("\\|")[1].replace("`", "").trim().split(" ")));
            }
        }
        Set<String> calls = new TreeSet<>();
        for (Method method : TreePatches.class.getDeclaredMethods()) {
            if (Modifier.isPublic(method.getModifiers())) {
                calls.add(method.getName());
            }
        }
        if (!named.equals(calls)) {
            System.out.println("the table names " + named + ", the class has " + calls);
        }
        return named.equals(calls);
    }
}
