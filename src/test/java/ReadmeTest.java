import java.io.File;
import java.net.URL;
import java.net.URLClassLoader;
import java.nio.file.Files;
import java.nio.file.Path;
import java.util.Comparator;
import java.util.List;
import java.util.regex.Matcher;
import java.util.regex.Pattern;
import java.util.stream.Stream;
import javax.tools.ToolProvider;

/** The lines of README.md answer what it says behind them; run from the root of the checkout. */
public final class ReadmeTest {
  private static final Pattern LINE =
      Pattern.compile("(?:int (\\w+) = )?(s\\.\\w+\\(.*\\)); // (throws )?([^:]+)(?::.*)?");

  private static int lines = 0;
  private static int wrong = 0;

  public static void due(String line, Object got, String want) {
    lines++;
    if (!want.equals(String.valueOf(got))) {
      wrong++;
      System.out.println("README.md: " + line + " answered " + got);
    }
  }

  private static String quoted(String text) {
    return "\"" + text.replace("\\", "\\\\").replace("\"", "\\\"") + "\"";
  }

  private static String program(List<String> readme) {
    StringBuilder program = new StringBuilder("public class Example { public static void run() {\n");
    boolean within = false;
    for (String line : readme) {
      if (line.startsWith("```")) {
        within = line.equals("```java");
      } else if (within) {
        program.append(checked(line)).append('\n');
      }
    }
    return program.append("} }\n").toString();
  }

  private static String checked(String line) {
    Matcher m = LINE.matcher(line);
    if (!m.matches()) return line;
    String want = quoted(m.group(4));
    if (m.group(3) != null) {
      return "try { " + due(line, m.group(2), want) + " } catch (RuntimeException e) { "
          + due(line, "e.getClass().getSimpleName()", want) + " }";
    }
    if (m.group(1) == null) return due(line, m.group(2), want);
    return "int " + m.group(1) + " = " + m.group(2) + "; " + due(line, m.group(1), want);
  }

  private static String due(String line, String got, String want) {
    return "ReadmeTest.due(" + quoted(line) + ", " + got + ", " + want + ");";
  }

  private static void runIn(Path room) throws Exception {
    Path source = room.resolve("Example.java");
    Files.writeString(source, program(Files.readAllLines(Path.of("README.md"))));
    String path = System.getProperty("java.class.path");
    String[] told = {"--release", "17", "-cp", path, "-d", room.toString(), source.toString()};
    if (ToolProvider.getSystemJavaCompiler().run(null, null, null, told) != 0) {
      wrong++;
      System.out.println("the lines of README.md do not compile");
      return;
    }
    URL[] here = {room.toUri().toURL()};
    try (URLClassLoader loader = new URLClassLoader(here, ReadmeTest.class.getClassLoader())) {
      loader.loadClass("Example").getMethod("run").invoke(null);
    }
  }

  public static void main(String[] args) throws Exception {
    Path room = Files.createTempDirectory("readme");
    try {
      runIn(room);
    } finally {
      try (Stream<Path> made = Files.walk(room)) {
        made.sorted(Comparator.reverseOrder()).map(Path::toFile).forEach(File::delete);
      }
    }
    if (lines < 30) {
      wrong++;
      System.out.println("only " + lines + " lines of README.md were found");
    }
    System.out.println(wrong == 0 ? "README.md tells what is so" : wrong + " lines of README.md are not so");
    if (wrong != 0) System.exit(1);
  }
}
