import java.io.IOException;
import java.lang.reflect.InvocationTargetException;
import java.lang.reflect.Method;
import java.nio.charset.StandardCharsets;
import java.nio.file.Files;
import java.nio.file.Path;
import java.util.ArrayList;
import java.util.Arrays;
import java.util.List;
import java.util.NoSuchElementException;
import java.util.TreeMap;
import java.util.TreeSet;
import java.util.regex.Matcher;
import java.util.regex.Pattern;

/** README.md is true: its calls answer as it tells, what it tells of refused calls is so, its table has every test. */
public final class ReadmeTest {
  private static final Check check = new Check("ReadmeTest");
  private static final Pattern LINE = Pattern.compile("x\\.(\\w+)\\((.*)\\);\\s*// (-?\\d+): .*");
  private static final Pattern CALL = Pattern.compile("x\\.(\\w+)\\(([^()]*)\\)");
  private static final TreeMap<String, Method> METHODS = new TreeMap<>();

  public static void main(String[] args) throws Exception {
    for (Method method : ClosedRooms.class.getDeclaredMethods()) {
      if (java.lang.reflect.Modifier.isPublic(method.getModifiers())) METHODS.put(method.getName(), method);
    }
    List<String> lines = Files.readAllLines(Path.of("README.md"), StandardCharsets.UTF_8);
    example(lines);
    refused(lines);
    acts();
    tests(lines);
    check.finish();
  }

  private static void example(List<String> lines) throws ReflectiveOperationException {
    int from = lines.indexOf("```java");
    int to = from + 1 + lines.subList(from + 1, lines.size()).indexOf("```");
    check.is("the first line", lines.get(from + 1), "ClosedRooms x = new ClosedRooms();");
    ClosedRooms x = new ClosedRooms();
    for (String line : lines.subList(from + 2, to)) {
      Matcher found = LINE.matcher(line);
      check.is("a call and its answer: " + line, found.matches(), true);
      if (found.matches()) check.is(line, call(x, found.group(1), found.group(2)), Long.parseLong(found.group(3)));
    }
    check.is("calls of the example", to - from > 15, true);
  }

  /** A call with numbers, or with other calls that stand for them. */
  private static long call(ClosedRooms x, String name, String told) throws ReflectiveOperationException {
    String rest = told;
    for (Matcher inner = CALL.matcher(rest); inner.find(); inner = CALL.matcher(rest)) {
      rest = rest.substring(0, inner.start()) + call(x, inner.group(1), inner.group(2)) + rest.substring(inner.end());
    }
    List<Object> numbers = new ArrayList<>();
    for (String one : rest.isEmpty() ? new String[0] : rest.split(", ")) numbers.add(Integer.decode(one));
    Object answer = METHODS.get(name).invoke(x, numbers.toArray());
    return answer instanceof Boolean ? (Boolean) answer ? 1 : 0 : (Integer) answer;
  }

  /** Each call with numbers that nothing has, on a new object: the answer of its row, or NONE. */
  private static void refused(List<String> lines) throws ReflectiveOperationException {
    TreeMap<String, String> rows = new TreeMap<>();
    for (String line : lines) {
      for (String sign : new String[] {"| `HIDDEN`", "| `false`", "| -2 ", "| throws "}) {
        if (!line.startsWith(sign)) continue;
        Matcher name = Pattern.compile("`(\\w+)`").matcher(line.substring(line.indexOf('|', 2)));
        while (name.find()) rows.put(name.group(1), sign);
      }
    }
    check.is("calls that answer otherwise than NONE", rows.size(), 17);
    for (Method method : METHODS.values()) {
      String row = rows.getOrDefault(method.getName(), "NONE");
      check.is(method.getName() + " refused", refusedAnswer(method), row.contains("HIDDEN") ? "-1000000" : row.contains("false") ? "false"
          : row.contains("-2") ? "-2" : row.contains("throws") ? "NoSuchElementException" : "-1");
      check.is(method.getName() + " may throw", Arrays.asList(method.getExceptionTypes()).contains(NoSuchElementException.class),
          row.contains("throws"));
    }
  }

  private static String refusedAnswer(Method method) throws ReflectiveOperationException {
    ClosedRooms x = new ClosedRooms();
    if (method.getName().equals("feed")) Check.put(x, "k".repeat(320));
    Object[] numbers = new Object[method.getParameterCount()];
    Arrays.fill(numbers, -7);
    try {
      return "" + method.invoke(x, numbers);
    } catch (InvocationTargetException e) {
      return e.getCause().getClass().getSimpleName();
    }
  }

  /** The ACTS are those from create to tell, as they stand in the document's face. */
  private static void acts() throws ReflectiveOperationException {
    TreeSet<String> acts = new TreeSet<>(Arrays.asList("create", "slots", "add", "extend", "seal", "enter", "leave", "trap", "resume",
        "touch", "block", "track", "evict", "load", "remove", "map", "twice", "change", "drop", "tell"));
    for (Method method : METHODS.values()) {
      ClosedRooms x = new ClosedRooms();
      Object[] numbers = new Object[method.getParameterCount()];
      Arrays.fill(numbers, -7);
      try {
        method.invoke(x, numbers);
      } catch (InvocationTargetException e) {
        check.is(method.getName() + " throws", method.getName(), "room");
      }
      check.is(method.getName() + " refused is counted by STATUS", Check.status(x), acts.contains(method.getName()) ? 10000 : 0);
    }
  }

  private static void tests(List<String> lines) throws IOException {
    TreeSet<String> told = new TreeSet<>();
    for (String line : lines) {
      if (!line.startsWith("| ")) continue;
      Matcher name = Pattern.compile("\\w+Test\\b").matcher(line.substring(0, line.indexOf('|', 2)));
      while (name.find()) told.add(name.group());
    }
    TreeSet<String> there = new TreeSet<>();
    try (var files = Files.list(Path.of("src/test/java"))) {
      files.map(file -> file.getFileName().toString()).filter(name -> name.endsWith("Test.java"))
          .forEach(name -> there.add(name.replace(".java", "")));
    }
    check.is("the tests of the table are all tests", told.toString(), there.toString());
  }
}
