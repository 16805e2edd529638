import java.io.ByteArrayOutputStream;
import java.io.IOException;
import java.io.PrintStream;
import java.net.URL;
import java.net.URLClassLoader;
import java.nio.charset.StandardCharsets;
import java.nio.file.Files;
import java.nio.file.Path;
import java.util.ArrayList;
import java.util.List;
import java.util.regex.Matcher;
import java.util.regex.Pattern;
import javax.tools.ToolProvider;

/** README.md's program prints what README.md says, and no call of the face is left out there. */
public final class ReadmeTests {
    private static int passed;
    private static int failed;

    private ReadmeTests() {
    }

    public static void main(String[] args) throws Exception {
        String page = Files.readString(Path.of(args.length > 0 ? args[0] : ".", "README.md"));
        sameLines(run(fenced(page, "java")), fenced(page, "text"));
        for (String call : Face.CALLS) {
            String name = call.split(" ")[0];
            check("`" + name + "` is named", Pattern.compile("`" + name + "(\\(\\w*\\))?`").matcher(page).find());
        }
        System.out.println(passed + " passed, " + failed + " failed");
        if (failed > 0) {
            System.exit(1);
        }
    }

    private static void check(String what, boolean good) {
        if (good) {
            passed++;
        } else {
            failed++;
            System.out.println("README.md: not so: " + what);
        }
    }

    private static String fenced(String page, String kind) {
        Matcher block = Pattern.compile("(?s)```" + kind + "\n(.*?)```").matcher(page);
        return block.find() ? block.group(1) : "";
    }

    private static void sameLines(String printed, String told) {
        String[] got = printed.split("\\R");
        String[] due = told.split("\\R");
        check(got.length + " lines, told are " + due.length, got.length == due.length);
        for (int i = 0; i < got.length && i < due.length; i++) {
            check("printed \"" + got[i] + "\", told \"" + due[i] + "\"", got[i].equals(due[i]));
        }
    }

    /** Compiles the program against the class that is being tested, and answers what it prints. */
    private static String run(String program) throws Exception {
        Path folder = Files.createTempDirectory("readme");
        Path source = Files.writeString(folder.resolve("Morning.java"), program);
        List<Path> made = new ArrayList<>(List.of(source, folder.resolve("Morning.class"), folder));
        PrintStream console = System.out;
        ByteArrayOutputStream printed = new ByteArrayOutputStream();
        try (URLClassLoader loader = new URLClassLoader(new URL[] {folder.toUri().toURL()})) {
            int exit = ToolProvider.getSystemJavaCompiler().run(null, null, null, "-proc:none", "-classpath",
                System.getProperty("java.class.path"), "-d", folder.toString(), source.toString());
            check("the program compiles", exit == 0);
            if (exit == 0) {
                System.setOut(new PrintStream(printed, true, StandardCharsets.UTF_8));
                loader.loadClass("Morning").getMethod("main", String[].class).invoke(null, (Object) new String[0]);
            }
        } finally {
            System.setOut(console);
            remove(made);
        }
        return printed.toString(StandardCharsets.UTF_8);
    }

    private static void remove(List<Path> files) throws IOException {
        for (Path file : files) {
            Files.deleteIfExists(file);
        }
    }
}
