import java.io.File;
import java.lang.reflect.Method;
import java.lang.reflect.Modifier;
import java.nio.charset.StandardCharsets;
import java.nio.file.Files;
import java.nio.file.Path;

/** README.md: its program prints what stands behind it, every call is named, and the files are there. */
public final class ReadmeTest {
    private static int wrong = 0;

    private static void holds(String what, boolean so) {
        if (!so) {
            wrong++;
            System.out.println(what);
        }
    }

    /** The first part of the text that is fenced in as this kind. */
    private static String fenced(String text, String kind) {
        String mark = "```" + kind + "\n";
        int from = text.indexOf(mark);
        int to = from < 0 ? -1 : text.indexOf("```", from + mark.length());
        return to < 0 ? "" : text.substring(from + mark.length(), to);
    }

    private static String printedBy(String... command) throws Exception {
        Process process = new ProcessBuilder(command).redirectError(ProcessBuilder.Redirect.INHERIT).start();
        String printed = new String(process.getInputStream().readAllBytes(), StandardCharsets.US_ASCII);
        holds(command[0] + " ended with an exit code that is not 0", process.waitFor() == 0);
        return printed.replace("\r\n", "\n");
    }

    private static void runsTheProgram(String readme, String source) throws Exception {
        Path directory = Files.createTempDirectory("readme");
        Path program = directory.resolve("FirstEvening.java");
        Files.writeString(program, fenced(readme, "java"));
        printedBy("javac", "-d", directory.toString(), source, program.toString());
        String printed = printedBy("java", "-cp", directory.toString(), "FirstEvening");
        holds("the program of README.md printed:\n" + printed, printed.equals(fenced(readme, "text")));
        for (File file : directory.toFile().listFiles()) {
            Files.delete(file.toPath());
        }
        Files.delete(directory);
    }

    public static void main(String[] args) throws Exception {
        Path source = Path.of(args[0]).toAbsolutePath().normalize();
        Path home = source.getParent().getParent().getParent().getParent();
        String readme = Files.readString(home.resolve("README.md"));
        runsTheProgram(readme, source.toString());
        for (Method method : StayPlay.class.getDeclaredMethods()) {
            if (Modifier.isPublic(method.getModifiers())) {
                holds(method.getName() + " is not named in README.md", readme.contains("`" + method.getName() + "("));
            }
        }
        String[] named = {"src/main/java/StayPlay.java", ".ci/run", "src/test/java/LawEdgesTest.java",
            "src/test/java/RefusedTest.java", "src/test/java/RandomRunsTest.java", "src/test/java/Model.java",
            "src/test/java/ModelLaw.java", "src/test/java/ReadmeTest.java"};
        for (String file : named) {
            String name = file.substring(file.lastIndexOf('/') + 1).replace(".java", "");
            holds(file + " is not there, or not named in README.md",
                Files.exists(home.resolve(file)) && readme.contains(name));
        }
        System.out.println("ReadmeTest: " + wrong + " things are not as due");
        if (wrong != 0) {
            System.exit(1);
        }
    }
}
