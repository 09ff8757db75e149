import java.io.File;
import java.io.IOException;
import java.lang.reflect.Method;
import java.lang.reflect.Modifier;
import java.nio.file.Files;
import java.nio.file.Path;
import java.util.regex.Matcher;
import java.util.regex.Pattern;
import javax.tools.JavaCompiler;
import javax.tools.ToolProvider;

/**
 * Compiles the examples of README.md and holds what they answer against what stands behind them.
 * Run from the root of the checkout.
 */
public final class Readme {
    private static final Pattern CALL = Pattern.compile("(desk\\.\\w+\\(.*\\)); *// (-?\\d+|NONE|RANGE|FULL)\\b.*");
    private static final String FENCE = "```";

    private Readme() {
    }

    public static void main(String[] args) throws ReflectiveOperationException, IOException {
        String readme = Files.readString(Path.of("README.md"));
        for (Method m : MetreDesk.class.getDeclaredMethods()) {
            if (Modifier.isPublic(m.getModifiers())) {
                Check.due("examples of " + m.getName(), readme.contains("desk." + m.getName() + "(") ? 1 : 0, 1);
            }
        }
        run(program(readme));
        Check.finish("Readme");
    }

    /** Functions of the examples become members, calls with an answer become checks in one method. */
    private static String program(String readme) {
        StringBuilder members = new StringBuilder();
        StringBuilder steps = new StringBuilder();
        boolean java = false;
        boolean member = false;
        for (String line : readme.split("\n")) {
            if (line.startsWith(FENCE)) {
                java = line.equals(FENCE + "java");
                member = false;
            } else if (java) {
                member = member || line.startsWith("static ");
                (member ? members : steps).append(member ? line : checked(line)).append('\n');
            }
        }
        return "final class ReadmeProgram {\n" + members
            + "static void run() {\n" + steps + "}\n}\n";
    }

    private static String checked(String line) {
        Matcher call = CALL.matcher(line);
        if (call.matches()) {
            String due = call.group(2).replaceAll("^(?=[A-Z])", "MetreDesk.");
            return "Check.due(\"" + call.group(1) + "\", " + call.group(1) + ", " + due + ");";
        }
        Check.due("an answer behind " + line, line.startsWith("desk.") ? 0 : 1, 1);
        return line;
    }

    private static void run(String program) throws ReflectiveOperationException, IOException {
        Path room = Files.createTempDirectory("readme");
        Path source = room.resolve("ReadmeProgram.java");
        Files.writeString(source, program);
        // It goes where the classes are, as Check is seen by classes of one loader alone.
        String classes = System.getProperty("java.class.path");
        JavaCompiler javac = ToolProvider.getSystemJavaCompiler();
        int failed = javac.run(null, null, null, "-cp", classes, "-d", classes.split(File.pathSeparator)[0],
            source.toString());
        Check.due("compiling the examples", failed, 0);
        Files.delete(source);
        Files.delete(room);
        if (failed == 0) {
            Method run = Class.forName("ReadmeProgram").getDeclaredMethod("run");
            run.setAccessible(true);
            run.invoke(null);
        }
    }
}
