import java.io.IOException;
import java.lang.reflect.Field;
import java.lang.reflect.Method;
import java.lang.reflect.Modifier;
import java.net.URL;
import java.net.URLClassLoader;
import java.nio.charset.StandardCharsets;
import java.nio.file.Files;
import java.nio.file.Path;
import java.util.ArrayList;
import java.util.HashSet;
import java.util.List;
import java.util.Set;
import java.util.TreeSet;
import java.util.regex.Matcher;
import java.util.regex.Pattern;
import java.util.stream.Stream;
import javax.tools.JavaCompiler;
import javax.tools.ToolProvider;

/** What README.md shows is so: its code is compiled and run, each call held against the answer that stands behind it. */
public final class ReadmeTest {
  private static final Check CHECK = new Check();
  private static final Pattern SHOWN =
      Pattern.compile("(x\\.(\\w+)\\([^;]*\\));\\s*// (-?\\d+|BAD|STATE|FULL|NONE)(: .*)?");

  /** The lines of each block of Java, one list for each. */
  private static List<List<String>> blocks(List<String> readme) {
    List<List<String>> blocks = new ArrayList<>();
    boolean inside = false;
    for (String line : readme) {
      if (line.equals("```java")) {
        blocks.add(new ArrayList<>());
        inside = true;
      } else if (line.startsWith("```")) {
        inside = false;
      } else if (inside) {
        blocks.get(blocks.size() - 1).add(line);
      }
    }
    return blocks;
  }

  /** A class that runs the blocks and keeps of each call shown: how it is written, its answer, the answer shown. */
  private static String program(List<List<String>> blocks, Set<String> called) {
    StringBuilder b = new StringBuilder("public final class Shown {\n");
    b.append("  public static final java.util.List<Object[]> ANSWERS = new java.util.ArrayList<>();\n");
    b.append("  private static final int BAD = -1, STATE = -2, FULL = -3, NONE = -9;\n");
    b.append("  private static void shown(String call, long got, long want) {\n");
    b.append("    ANSWERS.add(new Object[] {call, got, want});\n  }\n");
    for (int n = 0; n < blocks.size(); n++) {
      b.append("  private static void block").append(n).append("() {\n");
      for (String line : blocks.get(n)) b.append("    ").append(statement(line, called)).append("\n");
      b.append("  }\n");
    }
    b.append("  public static void all() {\n");
    for (int n = 0; n < blocks.size(); n++) b.append("    block").append(n).append("();\n");
    return b.append("  }\n}\n").toString();
  }

  private static String statement(String line, Set<String> called) {
    Matcher m = SHOWN.matcher(line);
    if (!m.matches()) {
      CHECK.that("README.md shows an answer behind '" + line + "'", !line.startsWith("x."));
      return line;
    }
    called.add(m.group(2));
    return "shown(\"" + m.group(1) + "\", " + m.group(1) + ", " + m.group(3) + ");";
  }

  private static List<?> answers(String program, Path room) throws IOException, ReflectiveOperationException {
    Path source = room.resolve("Shown.java");
    Files.writeString(source, program);
    JavaCompiler compiler = ToolProvider.getSystemJavaCompiler();
    CHECK.that("there is a compiler", compiler != null);
    if (compiler == null) return List.of();
    int code = compiler.run(null, System.out, System.out, "-cp", System.getProperty("java.class.path"),
        "-d", room.toString(), source.toString());
    CHECK.due("compiling what README.md shows", code, 0);
    if (code != 0) return List.of();
    try (URLClassLoader loader = new URLClassLoader(new URL[] {room.toUri().toURL()})) {
      Class<?> shown = loader.loadClass("Shown");
      shown.getMethod("all").invoke(null);
      return (List<?>) shown.getField("ANSWERS").get(null);
    }
  }

  private static void codeIsAsShown(List<String> readme, Path room) throws IOException, ReflectiveOperationException {
    Set<String> called = new HashSet<>();
    List<?> answers = answers(program(blocks(readme), called), room);
    CHECK.that("README.md shows calls", !answers.isEmpty());
    for (Object answer : answers) {
      Object[] a = (Object[]) answer;
      CHECK.due("README.md: " + a[0], (Long) a[1], (Long) a[2]);
    }
    Set<String> face = new TreeSet<>();
    for (Method m : ShiftAdds.class.getDeclaredMethods()) {
      if (Modifier.isPublic(m.getModifiers())) face.add(m.getName());
    }
    for (String name : face) CHECK.that("README.md shows " + name + "()", called.contains(name));
  }

  private static void constantsAreTold(String readme) throws IllegalAccessException {
    for (Field f : ShiftAdds.class.getDeclaredFields()) {
      if (Modifier.isPublic(f.getModifiers())) {
        String told = "`" + f.getName() + "` (" + f.getInt(null) + ")";
        CHECK.that("README.md tells " + told, readme.contains(told));
      }
    }
  }

  private static void testsAreNamed(String readme) throws IOException {
    try (Stream<Path> files = Files.list(Path.of("src/test/java"))) {
      for (Path file : (Iterable<Path>) files::iterator) {
        String name = file.getFileName().toString().replace(".java", "");
        CHECK.that("README.md names " + name, readme.contains("`" + name + "`"));
      }
    }
  }

  private static void remove(Path room) throws IOException {
    try (Stream<Path> files = Files.list(room)) {
      for (Path file : (Iterable<Path>) files::iterator) Files.delete(file);
    }
    Files.delete(room);
  }

  public static void main(String[] args) throws IOException, ReflectiveOperationException {
    Path file = Path.of("README.md");
    String readme = Files.readString(file, StandardCharsets.UTF_8);
    Path room = Files.createTempDirectory("readme");
    try {
      codeIsAsShown(Files.readAllLines(file, StandardCharsets.UTF_8), room);
    } finally {
      remove(room);
    }
    constantsAreTold(readme);
    testsAreNamed(readme);
    CHECK.end("ReadmeTest");
  }
}
