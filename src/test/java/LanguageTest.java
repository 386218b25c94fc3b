import java.lang.management.ManagementFactory;
import java.lang.reflect.Constructor;
import java.lang.reflect.Field;
import java.lang.reflect.Method;
import java.lang.reflect.Modifier;
import java.nio.charset.StandardCharsets;
import java.nio.file.Files;
import java.nio.file.Path;
import java.util.HashSet;
import java.util.Set;
import java.util.TreeSet;
import java.util.regex.Matcher;
import java.util.regex.Pattern;

/** The face of the class, the rules of LANGUAGE.md that a program can look for, and the room that calls take. */
public final class LanguageTest {
  private static final Check CHECK = new Check();
  private static final String[] FACE = {"adds(int,int,int,int):int", "back(int):int", "by(int,int):int", "clear():int",
    "count(int):int", "digit(int,int):int", "digits(int):int", "forget():int", "graph():int", "keep(int):int",
    "least(int):int", "limits(int):int", "near(int,int):int", "next():int", "odd(int,int):int", "plan(int):int",
    "product(int,int):long", "sees(int,int):int", "takes():int", "two(int):int", "type(int):int", "undo():int",
    "unseen(int):int", "wanted(int,int):int", "wishes(int):int"};
  private static final String[] FORBIDDEN = {"throw", "throws", "try", "catch", "finally", "synchronized", "assert",
    "import", "package", "protected", "native", "volatile", "transient", "equals", "hashCode", "toString", "Exact"};

  private static String signature(Method m) {
    StringBuilder b = new StringBuilder(m.getName()).append("(");
    for (Class<?> p : m.getParameterTypes()) b.append(b.charAt(b.length() - 1) == '(' ? "" : ",").append(p.getName());
    return b.append("):").append(m.getReturnType().getName()).toString();
  }

  private static void face() {
    Class<?> c = ShiftAdds.class;
    CHECK.that("the class is public and final", Modifier.isPublic(c.getModifiers()) && Modifier.isFinal(c.getModifiers()));
    Set<String> methods = new TreeSet<>();
    Set<String> publicNames = new HashSet<>();
    for (Method m : c.getDeclaredMethods()) {
      if (Modifier.isPublic(m.getModifiers())) {
        methods.add(signature(m));
        publicNames.add(m.getName());
        CHECK.that(m + " belongs to an object", !Modifier.isStatic(m.getModifiers()));
      }
    }
    CHECK.that("the methods are those of the document: " + methods, methods.equals(new TreeSet<>(java.util.List.of(FACE))));
    for (Method m : c.getDeclaredMethods()) {
      if (!Modifier.isPublic(m.getModifiers())) {
        CHECK.that(m + " is private, with a name of its own",
            Modifier.isPrivate(m.getModifiers()) && !publicNames.contains(m.getName()));
      }
    }
    Set<String> constants = new TreeSet<>();
    for (Field f : c.getDeclaredFields()) {
      if (Modifier.isPublic(f.getModifiers())) constants.add(f.getName());
      else CHECK.that(f + " is private", Modifier.isPrivate(f.getModifiers()));
    }
    CHECK.that("the constants: " + constants, constants.equals(Set.of("BAD", "STATE", "FULL", "NONE")));
    Constructor<?>[] made = c.getDeclaredConstructors();
    CHECK.that("one public constructor of nothing",
        made.length == 1 && Modifier.isPublic(made[0].getModifiers()) && made[0].getParameterCount() == 0);
    CHECK.due("BAD", ShiftAdds.BAD, -1);
    CHECK.due("STATE", ShiftAdds.STATE, -2);
    CHECK.due("FULL", ShiftAdds.FULL, -3);
    CHECK.due("NONE", ShiftAdds.NONE, -9);
  }

  private static void classesInside() {
    Class<?>[] inside = ShiftAdds.class.getDeclaredClasses();
    CHECK.that("at most twelve classes", inside.length + 1 <= 12);
    for (Class<?> c : inside) {
      CHECK.that(c + " is static and not public",
          Modifier.isStatic(c.getModifiers()) && !Modifier.isPublic(c.getModifiers()));
      int fields = 0;
      for (Field f : c.getDeclaredFields()) {
        if (Modifier.isStatic(f.getModifiers())) CHECK.that(f + " is final", Modifier.isFinal(f.getModifiers()));
        else fields++;
      }
      CHECK.that(c + " has at most twenty fields", fields <= 20);
      for (Method m : c.getDeclaredMethods()) {
        CHECK.that(m + " takes at most seven", m.getParameterCount() <= 7);
        for (String face : FACE) CHECK.that(m + " has a name of its own", !face.startsWith(m.getName() + "("));
      }
    }
  }

  private static void source() throws java.io.IOException {
    Path file = Path.of("src/main/java/ShiftAdds.java");
    String all = Files.readString(file, StandardCharsets.US_ASCII);
    String code = all.replaceAll("(?s)/\\*.*?\\*/", " ").replaceAll("//[^\n]*", " ");
    for (String word : FORBIDDEN) {
      CHECK.that("no " + word, !Pattern.compile("\\b" + word + "\\b|" + word + "\\(").matcher(code).find());
    }
    CHECK.that("no lambda, no method reference", !code.contains("->") && !code.contains("::"));
    CHECK.that("no static initialiser", !Pattern.compile("static\\s*\\{").matcher(code).find());
    Matcher library = Pattern.compile("\\b(Math|System|Integer|Long|Arrays)\\.(\\w+)").matcher(code);
    while (library.find()) {
      CHECK.that(library.group() + " is used", Set.of("Math.abs", "Math.max", "Math.min", "System.arraycopy")
          .contains(library.group()));
    }
  }

  /** Rows are made in the constructor: calls make nothing. */
  private static void room() {
    com.sun.management.ThreadMXBean bean = (com.sun.management.ThreadMXBean) ManagementFactory.getThreadMXBean();
    long thread = Thread.currentThread().getId();
    long before = 0;
    for (int round = 0; round < 3; round++) {
      ShiftAdds x = new ShiftAdds();
      before = bean.getThreadAllocatedBytes(thread);
      useAll(x);
    }
    long taken = bean.getThreadAllocatedBytes(thread) - before;
    CHECK.that("512 calls make nothing, but took " + taken + " bytes", taken < 4096);
  }

  /** All objects of a run live in one room, so that each is to be small. */
  private static void size() {
    com.sun.management.ThreadMXBean bean = (com.sun.management.ThreadMXBean) ManagementFactory.getThreadMXBean();
    long thread = Thread.currentThread().getId();
    ShiftAdds[] made = new ShiftAdds[100];
    long before = bean.getThreadAllocatedBytes(thread);
    for (int i = 0; i < made.length; i++) made[i] = new ShiftAdds();
    long taken = (bean.getThreadAllocatedBytes(thread) - before) / made.length;
    CHECK.that("a new object is small, but takes " + taken + " bytes", taken < 60000);
  }

  private static void useAll(ShiftAdds x) {
    String text = "l9;w683;w811;w45;w731;a0 1 0 0;a1 2 0 1;";
    for (int i = 0; i < text.length(); i++) x.type(text.charAt(i));
    x.graph();
    for (int round = 0; round < 28; round++) {
      x.adds(round % (x.count(0) + 1), round % 10, 0, round % 4);
      x.keep(round % 2);
      x.wishes(1 + round * 25);
      x.limits(9);
      x.sees(2 + round % 8, 1);
      x.near(round, round % 2);
      x.by(2 * round + 1, round % 4);
      x.two(20 * round + 1);
      x.plan(round % 5 - 2);
      x.least(1 + round * 6);
      x.unseen(round % 2);
      x.next();
      x.product(round % 3, round);
      if (round % 3 == 0) x.undo();
      if (round % 7 == 0) x.takes();
      if (round % 11 == 0) x.back(0);
    }
  }

  public static void main(String[] args) throws java.io.IOException {
    face();
    classesInside();
    source();
    room();
    size();
    CHECK.end("LanguageTest");
  }
}
