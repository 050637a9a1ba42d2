import java.io.IOException;
import java.nio.file.Files;
import java.nio.file.Path;
import java.util.Arrays;
import java.util.Set;
import java.util.TreeSet;
import java.util.regex.Matcher;
import java.util.regex.Pattern;
import java.util.stream.Stream;

/** What README.md tells holds: its calls answer as told, and its tests are those that there are. */
public final class ReadmeTest {
    private static final Pattern EXAMPLE = Pattern.compile("```java\n(.*?)```", Pattern.DOTALL);
    private static final Pattern CALL = Pattern.compile("patches\\.(\\w+)\\(([^)]*)\\);\\s+// (-?\\d+)(:.*)?");
    private static final Pattern TEST = Pattern.compile("`(\\w+Test)`");

    private ReadmeTest() {
    }

    private static int answer(CopiedPatches patches, String name, int[] numbers)
            throws ReflectiveOperationException {
        Class<?>[] types = new Class<?>[numbers.length];
        Arrays.fill(types, int.class);
        Object[] given = Arrays.stream(numbers).boxed().toArray();
        return (int) CopiedPatches.class.getMethod(name, types).invoke(patches, given);
    }

    private static void example(String readme) throws ReflectiveOperationException {
        Matcher example = EXAMPLE.matcher(readme);
        Due.isTrue("that there is an example", example.find());
        String[] lines = example.group(1).split("\n");
        Due.isTrue("that a new object is made", lines[0].equals("CopiedPatches patches = new CopiedPatches();"));
        CopiedPatches patches = new CopiedPatches();
        for (int i = 1; i < lines.length; i++) {
            Matcher call = CALL.matcher(lines[i]);
            boolean isCall = call.matches();
            Due.isTrue("that this is a call with its answer: " + lines[i], isCall);
            if (!isCall) continue;
            int[] numbers = Arrays.stream(call.group(2).split(", ")).mapToInt(Integer::parseInt).toArray();
            Due.is(lines[i], answer(patches, call.group(1), numbers), Integer.parseInt(call.group(3)));
        }
    }

    private static void tests(String readme) throws IOException {
        Set<String> told = new TreeSet<>();
        Matcher test = TEST.matcher(readme);
        while (test.find()) told.add(test.group(1) + ".java");
        Set<String> there = new TreeSet<>();
        try (Stream<Path> files = Files.list(Path.of("src/test/java"))) {
            files.map(file -> file.getFileName().toString()).filter(name -> name.endsWith("Test.java"))
                    .forEach(there::add);
        }
        Due.isTrue("that " + told + " are the tests " + there, told.equals(there));
        Due.isTrue("that the tests are run by .ci/run",
                readme.contains("\n    .ci/run\n") && Files.isExecutable(Path.of(".ci/run")));
        for (String file : new String[] {"src/main/java/CopiedPatches.java", "../shared/DOC.md",
            "../shared/LANGUAGE.md"}) {
            Due.isTrue("that there is " + file, readme.contains(file) && Files.isRegularFile(Path.of(file)));
        }
    }

    public static void main(String[] args) throws IOException, ReflectiveOperationException {
        String readme = Files.readString(Path.of("README.md"));
        example(readme);
        tests(readme);
        Due.end();
    }
}
