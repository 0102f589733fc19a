import java.io.ByteArrayOutputStream;
import java.io.PrintStream;
import java.nio.charset.StandardCharsets;
import java.nio.file.Files;
import java.nio.file.Path;
import java.util.List;

/** README.md shows Example.java as it is and what it prints, and names every call and every test. */
final class ReadmeTest {
    private static int wrong = 0;

    private static void hold(String what, boolean so) {
        if (!so) {
            wrong++;
            System.out.println("not so: " + what);
        }
    }

    public static void main(String[] args) throws Exception {
        String readme = Files.readString(Path.of("README.md"));
        String program = Files.readString(Path.of("src/test/java/Example.java"));
        hold("README.md shows Example.java", readme.contains("```java\n" + program + "```\n"));
        hold("README.md shows what Example prints", readme.contains("```text\n" + printed() + "```\n"));
        for (java.lang.reflect.Method method : OneEared.class.getDeclaredMethods()) {
            String name = method.getName();
            boolean open = java.lang.reflect.Modifier.isPublic(method.getModifiers());
            hold("README.md names " + name, !open || readme.contains("`" + name + "`") || readme.contains("`" + name + "("));
        }
        try (var files = Files.list(Path.of("src/test/java"))) {
            List<String> names = files.map(file -> file.getFileName().toString().replace(".java", "")).toList();
            for (String name : names) {
                hold("README.md names " + name, readme.contains("`" + name + "`") || name.equals("Example"));
            }
        }
        System.out.println(wrong == 0 ? "README.md is as it should be" : wrong + " faults of README.md");
        if (wrong != 0) {
            System.exit(1);
        }
    }

    private static String printed() {
        PrintStream before = System.out;
        ByteArrayOutputStream bytes = new ByteArrayOutputStream();
        System.setOut(new PrintStream(bytes, true, StandardCharsets.UTF_8));
        try {
            Example.main(new String[0]);
        } finally {
            System.out.flush();
            System.setOut(before);
        }
        return bytes.toString(StandardCharsets.UTF_8).replace("\r\n", "\n");
    }
}
