import java.io.File;
import java.lang.reflect.Method;
import java.lang.reflect.Modifier;
import java.nio.file.Files;
import java.nio.file.Path;
import java.util.regex.Matcher;
import java.util.regex.Pattern;

/** README.md: its example does what it says, and no call and no test is left out. */
public final class ReadmeTest {
    public static void main(String[] args) throws Exception {
        String readme = Files.readString(Path.of("README.md"));
        example(readme);
        calls(readme);
        tests(readme);
        Check.end();
    }

    private static void example(String readme) throws Exception {
        Matcher block = Pattern.compile("(?s)```java\n(.*?)```").matcher(readme);
        boolean found = block.find();
        Check.isTrue("there is an example", found);
        if (found) {
            String source = "public final class Example {\npublic static int[] run() {\n"
                    + block.group(1) + "return new int[] {bits, first, pixel, copies};\n}\n}\n";
            Compiled.use("Example", source, loader -> answers(
                    (int[]) loader.loadClass("Example").getMethod("run").invoke(null)));
        }
    }

    /** Twelve pixels, all 0 but one. */
    private static void answers(int[] got) {
        int[] pixels = new int[12];
        pixels[2 * 4 + 1] = 0xFF00FF00;
        Reference.Result due = Reference.encode(4, 3, pixels, true, false, -1, 2);
        Check.same("the example's bits", due.count, got[0]);
        Check.same("its first byte", 47, got[1]);
        Check.same("its pixel", 0xFF00FF00, got[2]);
        Check.same("its copies", 0, got[3]);
    }

    private static void calls(String readme) {
        for (Method method : LosslessPixels.class.getDeclaredMethods()) {
            if (Modifier.isPublic(method.getModifiers())) {
                Check.isTrue(method.getName() + " is told of",
                        readme.contains("| `" + method.getName() + "("));
            }
        }
    }

    private static void tests(String readme) {
        String[] files = new File("src/test/java").list((folder, name) -> name.endsWith("Test.java"));
        Check.isTrue("there are tests", files != null && files.length > 0);
        for (String file : files == null ? new String[0] : files) {
            String name = file.replace(".java", "");
            Check.isTrue(name + " is told of", readme.contains("`" + name + "`"));
        }
    }
}
