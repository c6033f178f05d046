import java.io.IOException;
import java.lang.reflect.Method;
import java.lang.reflect.Modifier;
import java.nio.charset.StandardCharsets;
import java.nio.file.Files;
import java.nio.file.Path;
import java.util.List;
import javax.tools.ToolProvider;

/** The README's example prints what the README says, and its table names each call and what that call throws. */
public final class ReadmeTest {
    private static final Path README = Path.of("README.md");
    private static final Path PROGRAM = Path.of("src/main/java/VinegarLoft.java");
    private static final List<Class<?>> REFUSALS = List.of(
            IllegalArgumentException.class, IllegalStateException.class, IndexOutOfBoundsException.class);

    public static void main(String[] args) throws Exception {
        List<String> readme = Files.readAllLines(README);
        theExamplePrintsWhatIsTold(readme);
        for (Method call : VinegarLoft.class.getDeclaredMethods()) {
            if (Modifier.isPublic(call.getModifiers())) {
                theCallIsTold(readme, call);
            }
        }
        Check.end();
    }

    private static void theExamplePrintsWhatIsTold(List<String> readme) throws Exception {
        Path folder = Files.createTempDirectory("readme");
        try {
            Path example = folder.resolve("Example.java");
            Files.writeString(example, block(readme, "java"));
            int wrong = ToolProvider.getSystemJavaCompiler().run(
                    null, null, null, "-d", folder.toString(), PROGRAM.toString(), example.toString());
            Check.that("javac of the example", wrong, 0);
            if (wrong == 0) {
                Check.that("the example", output(folder), block(readme, "text"));
            }
        } finally {
            removeAll(folder);
        }
    }

    /** The lines between the first fence of this kind and the fence that ends it. */
    private static String block(List<String> readme, String kind) {
        int fence = readme.indexOf("```" + kind);
        Check.holds("the README has a block of " + kind, fence >= 0);
        StringBuilder lines = new StringBuilder();
        for (int i = fence + 1; i < readme.size() && !readme.get(i).equals("```"); i++) {
            lines.append(readme.get(i)).append('\n');
        }
        return lines.toString();
    }

    private static String output(Path classes) throws Exception {
        String java = Path.of(System.getProperty("java.home"), "bin", "java").toString();
        // What the machine itself has to say goes to the error stream, and is not the example's.
        Process run = new ProcessBuilder(java, "-cp", classes.toString(), "Example")
                .redirectError(ProcessBuilder.Redirect.INHERIT).start();
        String printed = new String(run.getInputStream().readAllBytes(), StandardCharsets.UTF_8);
        Check.that("the example's exit code", run.waitFor(), 0);
        return printed;
    }

    private static void theCallIsTold(List<String> readme, Method call) {
        List<String> rows = readme.stream().filter(line -> line.startsWith("| `" + call.getName() + "(")).toList();
        Check.that("rows for " + call.getName(), rows.size(), 1);
        List<Class<?>> thrown = List.of(call.getExceptionTypes());
        for (Class<?> refusal : REFUSALS) {
            boolean told = rows.stream().anyMatch(row -> row.contains(refusal.getSimpleName()));
            Check.that(call.getName() + " told with " + refusal.getSimpleName(),
                    String.valueOf(told), String.valueOf(thrown.contains(refusal)));
        }
    }

    private static void removeAll(Path folder) throws IOException {
        try (var files = Files.list(folder)) {
            for (Path file : files.toList()) {
                Files.delete(file);
            }
        }
        Files.delete(folder);
    }
}
