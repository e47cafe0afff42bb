import java.io.IOException;
import java.lang.reflect.Field;
import java.lang.reflect.Method;
import java.lang.reflect.Modifier;
import java.nio.file.Files;
import java.nio.file.Path;
import java.util.Set;
import java.util.TreeSet;
import java.util.regex.Matcher;
import java.util.regex.Pattern;

/** Whether README.md tells each call of the face by as many numbers, each constant, and no other. */
public final class ReadmeTest {
  private static int wrong = 0;

  public static void main(String[] args) throws IOException, IllegalAccessException {
    String readme = Files.readString(Path.of("README.md"));
    same("calls", callsTold(readme), callsThere());
    same("constants", constantsTold(readme), constantsThere());
    for (Path test : testsThere()) {
      check(readme.contains("`src/test/java/" + test.getFileName() + "`"), "does not tell of " + test.getFileName());
    }
    System.out.println("readme: " + (wrong == 0 ? "tells all" : wrong + " not told"));
    if (wrong != 0) {
      System.exit(1);
    }
  }

  private static void check(boolean good, String what) {
    if (!good) {
      wrong++;
      System.out.println("readme: " + what);
    }
  }

  private static void same(String what, Set<String> told, Set<String> there) {
    check(told.equals(there), what + " told are " + told + ", there are " + there);
  }

  /** A row of the table of calls begins by the call. */
  private static Set<String> callsTold(String readme) {
    Set<String> told = new TreeSet<>();
    Matcher row = Pattern.compile("(?m)^\\| `([a-zA-Z]+)\\(([^)]*)\\)` \\|").matcher(readme);
    while (row.find()) {
      String numbers = row.group(2).trim();
      told.add(row.group(1) + " of " + (numbers.isEmpty() ? 0 : numbers.split(",").length));
    }
    return told;
  }

  private static Set<String> callsThere() {
    Set<String> there = new TreeSet<>();
    for (Method m : BellSchool.class.getDeclaredMethods()) {
      if (Modifier.isPublic(m.getModifiers())) {
        there.add(m.getName() + " of " + m.getParameterCount());
      }
    }
    return there;
  }

  private static Set<String> constantsTold(String readme) {
    Set<String> told = new TreeSet<>();
    Matcher row = Pattern.compile("(?m)^\\| `([A-Z]+)` \\| (-?\\d+) \\|").matcher(readme);
    while (row.find()) {
      told.add(row.group(1) + " is " + row.group(2));
    }
    return told;
  }

  private static Set<String> constantsThere() throws IllegalAccessException {
    Set<String> there = new TreeSet<>();
    for (Field f : BellSchool.class.getDeclaredFields()) {
      if (Modifier.isPublic(f.getModifiers())) {
        there.add(f.getName() + " is " + f.getInt(null));
      }
    }
    return there;
  }

  private static Set<Path> testsThere() throws IOException {
    Set<Path> there = new TreeSet<>();
    try (var files = Files.list(Path.of("src/test/java"))) {
      files.filter(file -> file.toString().endsWith(".java")).forEach(there::add);
    }
    return there;
  }
}
