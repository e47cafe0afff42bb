import java.io.IOException;
import java.lang.management.ManagementFactory;
import java.lang.reflect.Constructor;
import java.lang.reflect.Field;
import java.lang.reflect.Method;
import java.lang.reflect.Modifier;
import java.nio.file.Files;
import java.nio.file.Path;
import java.util.Arrays;
import java.util.Set;
import java.util.TreeSet;
import java.util.regex.Matcher;
import java.util.regex.Pattern;

/** The face, the rules of LANGUAGE.md that can be looked up, and the room that calls take. */
public final class LanguageTest {
  private static final String[] FACE = {
    "int write(int)", "int wipe()", "int fault()", "int lay()", "int home(int,int)", "int way(int,int,int)",
    "int far(int,int)", "int comes(int)", "int last()", "int pass(int)", "int keepBack(int)", "int sick(int)",
    "int shut(int,int)", "int undo()", "int behind(int)", "int again()", "int each(int)", "int always()",
    "int never()", "int see(int,int)", "int forget()", "int fog()", "int tripped()",
    "long measles(int,int,int,int)", "int year(int,int,int)", "int keep()", "int back()", "int count(int)"};
  private static int wrong = 0;

  public static void main(String[] args) throws IOException {
    face();
    words();
    room();
    System.out.println("language: " + (wrong == 0 ? "kept" : wrong + " not kept"));
    if (wrong != 0) {
      System.exit(1);
    }
  }

  private static void check(boolean good, String what) {
    if (!good) {
      wrong++;
      System.out.println("language: " + what);
    }
  }

  private static void face() {
    Set<String> methods = new TreeSet<>();
    Set<String> names = new TreeSet<>();
    for (Method m : BellSchool.class.getDeclaredMethods()) {
      String types = String.join(",", Arrays.stream(m.getParameterTypes()).map(Class::getName).toList());
      if (Modifier.isPublic(m.getModifiers())) {
        methods.add(m.getReturnType() + " " + m.getName() + "(" + types + ")");
        names.add(m.getName());
      }
      check(m.getParameterCount() <= 7, "over seven parameters: " + m);
    }
    check(methods.equals(new TreeSet<>(Arrays.asList(FACE))), "the face is " + methods);
    for (Method m : BellSchool.class.getDeclaredMethods()) {
      boolean hidden = Modifier.isPrivate(m.getModifiers());
      check(hidden || Modifier.isPublic(m.getModifiers()), "neither public nor private: " + m);
      check(!hidden || !names.contains(m.getName()), "a private one by a public name: " + m);
    }
    for (Field f : BellSchool.class.getDeclaredFields()) {
      boolean constant = Set.of("BAD", "NO", "FULL", "NONE").contains(f.getName());
      check(constant == Modifier.isPublic(f.getModifiers()) && (constant || Modifier.isPrivate(f.getModifiers())),
          "field " + f);
      check(!Modifier.isStatic(f.getModifiers()) || Modifier.isFinal(f.getModifiers()), "static " + f);
    }
    Constructor<?>[] constructors = BellSchool.class.getDeclaredConstructors();
    check(constructors.length == 1 && Modifier.isPublic(constructors[0].getModifiers())
        && constructors[0].getParameterCount() == 0, "constructors");
    check(Modifier.isFinal(BellSchool.class.getModifiers()), "the class is not final");
    Class<?>[] inside = BellSchool.class.getDeclaredClasses();
    check(inside.length <= 11, "too many classes");
    for (Class<?> c : inside) {
      check(Modifier.isStatic(c.getModifiers()) && !Modifier.isPublic(c.getModifiers()), "class " + c);
      long fields = Arrays.stream(c.getDeclaredFields()).filter(f -> !Modifier.isStatic(f.getModifiers())).count();
      check(fields <= 20, "too many fields in " + c);
    }
  }

  private static void words() throws IOException {
    String source = Files.readString(Path.of("src/main/java/BellSchool.java"));
    check(source.chars().allMatch(c -> c == '\n' || c >= 32 && c < 127), "a strange letter");
    String code = source.replaceAll("(?s)/\\*.*?\\*/", " ").replaceAll("//[^\n]*", " ")
        .replaceAll("\"(\\\\.|[^\"\\\\])*\"", "\"\"").replaceAll("'(\\\\.|[^'\\\\])'", "' '");
    for (String no : new String[] {"import", "package", "->", "::", "catch", "try", "finally", "throw", "throws",
        "synchronized", "assert", "volatile", "native", "protected", "System", "Object", "Random", "Thread",
        "hashCode", "toString", "getClass", "var", "double", "float", "Exact"}) {
      String at = Character.isLetter(no.charAt(0)) ? "\\b" + no + "\\b" : Pattern.quote(no);
      check(!Pattern.compile(at).matcher(code).find(), "the source says " + no);
    }
    check(!code.contains("\"\" +") && !code.contains("+ \"\""), "texts are joined by +");
    // What is made is made in fields and in the one constructor with a room, and no call makes more.
    Matcher made = Pattern.compile("(?m)^(.*)\\bnew\\b.*$").matcher(code);
    while (made.find()) {
      String line = made.group(0).trim();
      check(line.matches("(private )?(final )?[A-Za-z\\[\\]]+ [a-zA-Z]+ = new .*;")
          || line.equals("rows = new Standing[Math.max(1, room)];") || line.equals("rows[i] = new Standing();"),
          "made outside a field: " + line);
    }
    shortMethods(source.split("\n"));
  }

  /** A method begins by a line that ends in ") {" and ends by a } at the same depth. */
  private static void shortMethods(String[] lines) {
    int found = 0;
    for (int i = 0; i < lines.length; i++) {
      Matcher start = Pattern.compile("^( {4}| {8})[a-zA-Z].*\\) \\{$").matcher(lines[i]);
      if (!start.find()) {
        continue;
      }
      int end = i;
      while (end < lines.length && !lines[end].equals(start.group(1) + "}")) {
        end++;
      }
      found++;
      check(end - i <= 60, "a long method: " + lines[i].trim());
    }
    check(found > 60, "only " + found + " methods were found");
  }

  /** Calls make nothing: a run of the dearest ones takes no room to speak of. */
  private static void room() {
    com.sun.management.ThreadMXBean threads =
        (com.sun.management.ThreadMXBean) ManagementFactory.getThreadMXBean();
    long self = Thread.currentThread().getId();
    dearRun(new BellSchool());
    BellSchool x = new BellSchool();
    long before = threads.getThreadAllocatedBytes(self);
    dearRun(x);
    long taken = threads.getThreadAllocatedBytes(self) - before;
    check(taken < 20000, "a run takes " + taken + " bytes");
    before = threads.getThreadAllocatedBytes(self);
    BellSchool y = new BellSchool();
    long made = threads.getThreadAllocatedBytes(self) - before;
    check(y.count(0) == 6 && made < 80000, "an object takes " + made + " bytes");
  }

  private static void dearRun(BellSchool x) {
    for (int i = 0; i < 24; i++) {
      x.pass(1 + i % 28);
      x.shut(0, 1);
      x.sick(i % 6);
      x.keepBack(i % 5);
      x.each(i % 29);
      x.again();
      x.always();
      x.never();
      x.see(i % 6, 28);
      x.fog();
      x.tripped();
      x.measles(i % 6, 2, 3, 1);
      x.year(i, 60, 1);
      x.keep();
      x.undo();
      x.back();
      x.fault();
      x.write('h');
      x.lay();
      x.behind(60);
    }
  }
}
