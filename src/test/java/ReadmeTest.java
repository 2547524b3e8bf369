import java.io.IOException;
import java.lang.reflect.Method;
import java.lang.reflect.Modifier;
import java.nio.file.Files;
import java.nio.file.Path;

/** README.md tells how to use every call, and its example is the one that runs here; run from the project's root. */
public final class ReadmeTest {
    private static int wrong = 0;

    public static void main(String[] args) throws IOException {
        String readme = Files.readString(Path.of("README.md"));
        String own = Files.readString(Path.of("src/test/java/ReadmeTest.java"));
        checkExampleIsTold(example(readme), own);
        checkExampleAnswers();
        checkEveryCallIsTold(readme);
        must(readme.contains(".ci/run"), "README.md does not say how to run the tests");
        System.out.println(wrong == 0 ? "README.md is as due" : wrong + " faults");
        if (wrong != 0) {
            System.exit(1);
        }
    }

    private static void must(boolean holds, String what) {
        if (!holds) {
            wrong++;
            System.out.println(what);
        }
    }

    private static String example(String readme) {
        String fence = "```java\n";
        int from = readme.indexOf(fence);
        int to = from < 0 ? -1 : readme.indexOf("```", from + fence.length());
        must(to >= 0, "README.md has no example");
        return to < 0 ? "" : readme.substring(from + fence.length(), to);
    }

    private static void checkExampleIsTold(String example, String own) {
        for (String line : example.split("\n")) {
            String code = line.replaceAll("//.*", "").trim();
            must(own.contains(code), "an example's line that is not tested: " + code);
        }
    }

    private static void checkExampleAnswers() {
        int told = -1;
        ModEngine x = new ModEngine(2, 3);
        x.pokeMod(0, 101);
        if (x.init() == 0) {
            x.poke(0, 0, 7);
            x.poke(1, 0, 100);
            x.powMod(2, 0, 1);
            int low = x.peek(2, 0);
            told = low;
        }
        must(told == 1, "the example answers " + told + ", due is 1");
    }

    private static void checkEveryCallIsTold(String readme) {
        for (Method method : ModEngine.class.getDeclaredMethods()) {
            boolean isTold = readme.contains("`" + method.getName() + "(");
            must(!Modifier.isPublic(method.getModifiers()) || isTold, "README.md does not tell of " + method.getName());
        }
    }
}
