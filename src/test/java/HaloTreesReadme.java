import java.io.IOException;
import java.lang.reflect.Method;
import java.lang.reflect.Modifier;
import java.nio.file.Files;
import java.nio.file.Path;
import java.util.ArrayList;
import java.util.List;
import java.util.Set;
import java.util.TreeSet;
import java.util.regex.Matcher;
import java.util.regex.Pattern;
import java.util.stream.Stream;

/** What README.md tells held against the class: its example, the calls, the refusals in their order, and the tests. */
public final class HaloTreesReadme {
  private static final String FIRST = "HaloTrees t = new HaloTrees();";
  /** A call by numbers alone, and behind it a number or a constant's name, with words behind a colon or none. */
  private static final Pattern ROW = Pattern.compile("t\\.(\\w+)\\(((?:-?\\d+(?:, -?\\d+)*)?)\\);\\s+// (-?\\d+|[A-Z]+)(?:: .+)?");
  private static final int MOST_CALLS = 512;
  private static int wrong = 0;

  private static void require(boolean holds, String what) {
    if (!holds) {
      wrong++;
      System.out.println("README.md: " + what);
    }
  }

  private static List<String> example(List<String> lines) {
    int begin = lines.indexOf("```java");
    List<String> rows = new ArrayList<>();
    for (int at = begin + 1; begin >= 0 && at < lines.size() && !lines.get(at).equals("```"); at++) rows.add(lines.get(at));
    return rows;
  }

  private static List<Method> face() {
    List<Method> face = new ArrayList<>();
    for (Method m : HaloTrees.class.getDeclaredMethods()) if (Modifier.isPublic(m.getModifiers())) face.add(m);
    return face;
  }

  private static Method find(String name, int parameters) {
    for (Method m : face()) if (m.getName().equals(name) && m.getParameterCount() == parameters) return m;
    return null;
  }

  private static int valueOf(String answer) throws ReflectiveOperationException {
    boolean isName = Character.isUpperCase(answer.charAt(0));
    return isName ? HaloTrees.class.getField(answer).getInt(null) : Integer.parseInt(answer);
  }

  private static void checkExample(List<String> rows) throws ReflectiveOperationException {
    require(!rows.isEmpty() && rows.get(0).equals(FIRST), "the example begins with " + FIRST);
    require(rows.size() <= MOST_CALLS, "the example has too many calls");
    HaloTrees t = new HaloTrees();
    Set<String> used = new TreeSet<>();
    for (String row : rows.subList(Math.min(1, rows.size()), rows.size())) {
      Matcher parts = ROW.matcher(row);
      if (!parts.matches()) {
        require(false, "no call with its answer: " + row);
        continue;
      }
      used.add(parts.group(1));
      checkRow(t, row, parts);
    }
    for (Method m : face()) require(used.contains(m.getName()), "the example does not use " + m.getName());
  }

  private static void checkRow(HaloTrees t, String row, Matcher parts) throws ReflectiveOperationException {
    String[] numbers = parts.group(2).isEmpty() ? new String[0] : parts.group(2).split(", ");
    Object[] arguments = new Object[numbers.length];
    for (int i = 0; i < numbers.length; i++) arguments[i] = Integer.parseInt(numbers[i]);
    Method m = find(parts.group(1), numbers.length);
    require(m != null, "there is no such call: " + row);
    if (m == null) return;
    Object got = m.invoke(t, arguments);
    require(got.equals(valueOf(parts.group(3))), row + " -- but the class answers " + got);
  }

  /** The rows of the table of calls, each a call of the face, and none of the face without one. */
  private static void checkCalls(List<String> lines) {
    Set<String> told = new TreeSet<>();
    Matcher row = Pattern.compile("(?m)^\\| `(\\w+)\\(([^)]*)\\)` \\| .+ \\|$").matcher(String.join("\n", lines));
    while (row.find()) told.add(row.group(1) + "/" + (row.group(2).isEmpty() ? 0 : row.group(2).split(", ").length));
    Set<String> due = new TreeSet<>();
    for (Method m : face()) due.add(m.getName() + "/" + m.getParameterCount());
    require(told.equals(due), "the calls are " + due + ", but it tells " + told);
  }

  private static void checkRefusals(List<String> lines) {
    List<String> told = new ArrayList<>();
    Matcher row = Pattern.compile("(?m)^\\| `([A-Z]+)` \\| (-?\\d+) \\| .+ \\|$").matcher(String.join("\n", lines));
    while (row.find()) told.add(row.group(1) + " " + row.group(2));
    List<String> due = List.of("UNKNOWN " + HaloTrees.UNKNOWN, "OUTSIDE " + HaloTrees.OUTSIDE, "NOT " + HaloTrees.NOT,
        "FULL " + HaloTrees.FULL);
    require(told.equals(due), "the refusals are " + due + ", but it tells " + told);
  }

  private static void checkTests(List<String> lines) throws IOException {
    Set<String> told = new TreeSet<>();
    Matcher row = Pattern.compile("(?m)^- `(HaloTrees\\w+)`: ").matcher(String.join("\n", lines));
    while (row.find()) told.add(row.group(1) + ".java");
    Set<String> due = new TreeSet<>();
    try (Stream<Path> files = Files.list(Path.of("src/test/java"))) {
      files.forEach(file -> due.add(file.getFileName().toString()));
    }
    require(told.equals(due), "the tests are " + due + ", but it tells " + told);
  }

  public static void main(String[] args) throws IOException, ReflectiveOperationException {
    List<String> lines = Files.readAllLines(Path.of("README.md"));
    List<String> rows = example(lines);
    checkExample(rows);
    checkCalls(lines);
    checkRefusals(lines);
    checkTests(lines);
    require(String.join(" ", lines).contains("at most " + MOST_CALLS + " calls"), "it does not tell for how many calls an object is");
    System.out.println(rows.size() + " lines of README.md's example, " + wrong + " things not as told");
    if (wrong != 0) System.exit(1);
  }
}
