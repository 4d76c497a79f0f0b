import java.io.IOException;
import java.nio.charset.StandardCharsets;
import java.nio.file.Files;
import java.nio.file.Path;
import java.util.ArrayDeque;
import java.util.Collections;
import java.util.Deque;
import java.util.IdentityHashMap;
import java.util.List;
import java.util.Set;
import java.util.TreeSet;
import java.util.regex.Matcher;
import java.util.regex.Pattern;

/** The rules of LANGUAGE.md that a look at the lines of the class can tell. */
public final class SourceTest {
  private static final Check check = new Check("SourceTest");
  private static final Pattern METHOD =
      Pattern.compile("^( +)(?:(?:public|private|static|final) )*(?:[A-Z]\\w*|int|boolean|void)(?:\\[\\])? ?(\\w*)\\((.*)\\).*\\{$");

  public static void main(String[] args) throws IOException, IllegalAccessException {
    Path file = Path.of("src/main/java/ClosedRooms.java");
    String text = Files.readString(file, StandardCharsets.ISO_8859_1);
    for (int i = 0; i < text.length(); i++) {
      char one = text.charAt(i);
      if (one != '\n' && (one < 32 || one > 126)) check.is("sign at " + i, one, ' ');
    }
    String code = withoutComments(text);
    words(code);
    imports(code);
    calls(code);
    methods(List.of(code.split("\n", -1)));
    classes(code);
    space();
    check.finish();
  }

  private static String withoutComments(String text) {
    return text.replaceAll("(?s)/\\*.*?\\*/", "").replaceAll("(?m)//.*$", "").replaceAll("\"[^\"]*\"", "\"\"");
  }

  private static void words(String code) {
    String[] forbidden = {"catch", "try", "finally", "synchronized", "assert", "volatile", "transient", "native", "strictfp",
        "double", "float", "Object", "Random", "Thread", "Runtime", "Class", "hashCode", "getMessage", "yield", "sealed interface"};
    for (String word : forbidden) {
      check.is("rule 2, 6 or 13: " + word, Pattern.compile("\\b" + word + "\\b").matcher(code).find(), false);
    }
    check.is("rule 2: lambda", code.contains("->"), false);
    check.is("rule 2: method reference", code.contains("::"), false);
    check.is("rule 5: static initialiser", Pattern.compile("static\\s*\\{").matcher(code).find(), false);
    check.is("rule 10: joining by +", Pattern.compile("\"\"\\s*\\+|\\+\\s*\"\"").matcher(code).find(), false);
    check.is("rule 3: three dimensions", code.contains("[][][]"), false);
  }

  private static void imports(String code) {
    int imports = 0;
    Matcher found = Pattern.compile("(?m)^import (.*);$").matcher(code);
    while (found.find()) {
      imports++;
      check.is("import " + found.group(1), found.group(1).equals("java.util.NoSuchElementException"), true);
    }
    check.is("one import", imports, 1);
    check.is("no package", Pattern.compile("(?m)^package").matcher(code).find(), false);
  }

  private static void calls(String code) {
    Set<String> allowed = Set.of("System.arraycopy", "Math.floorMod", "Integer.bitCount");
    Matcher found = Pattern.compile("\\b(System|Math|Integer|Long|Arrays|String|List|ArrayList)\\.(\\w+)").matcher(code);
    while (found.find()) check.is("rule 4: " + found.group(), allowed.contains(found.group()), true);
    Matcher thrown = Pattern.compile("throw new (\\w+)\\(").matcher(code);
    int throwing = 0;
    while (thrown.find()) {
      throwing++;
      check.is("thrown " + thrown.group(1), thrown.group(1).equals("NoSuchElementException"), true);
    }
    check.is("room alone throws", throwing, 1);
  }

  private static void methods(List<String> lines) {
    int methods = 0;
    for (int i = 0; i < lines.size(); i++) {
      Matcher found = METHOD.matcher(lines.get(i));
      if (!found.matches() || lines.get(i).trim().startsWith("else") || lines.get(i).contains(" class ")) continue;
      methods++;
      int end = i;
      while (end < lines.size() && !lines.get(end).equals(found.group(1) + "}")) end++;
      check.is("rule 11: lines of " + found.group(2), end - i + 1 <= 60, true);
      check.is("rule 11: parameters of " + found.group(2), found.group(3).split(",").length <= 7, true);
    }
    check.is("methods are found", methods > 120, true);
  }

  private static void classes(String code) {
    Set<String> names = new TreeSet<>();
    Matcher found = Pattern.compile("(?m)^( *)(.*)\\bclass (\\w+)").matcher(code);
    while (found.find()) {
      names.add(found.group(3));
      check.is("where " + found.group(3) + " stands", found.group(1).length(), names.size() == 1 ? 0 : 2);
      check.is("how " + found.group(3) + " is told", found.group(2), names.size() == 1 ? "public final " : "private static final ");
    }
    check.is("rule 11: classes", names.size() <= 12, true);
    for (Class<?> inside : ClosedRooms.class.getDeclaredClasses()) check.is(inside.getSimpleName(), fields(inside) <= 20, true);
    check.is("rule 11: fields", fields(ClosedRooms.class) <= 20, true);
  }

  private static int fields(Class<?> of) {
    int fields = 0;
    for (java.lang.reflect.Field field : of.getDeclaredFields()) {
      if (!java.lang.reflect.Modifier.isStatic(field.getModifiers())) fields++;
    }
    return fields;
  }

  /** Rule 12: what an object holds is some hundredth part of the room of a run, and calls make it no more. */
  private static void space() throws IllegalAccessException {
    ClosedRooms x = new ClosedRooms();
    int[] made = held(x);
    check.is("objects and arrays", made[0] <= 3000, true);
    check.is("fields and elements", made[1] <= 30000, true);
    Check.text(x, 0, "pages 10;cores 3");
    for (int i = 0; i < 4; i++) Check.text(x, 1, "create 1;slots;add 0,0,1,1,1;seal 0;enter 0,0,0");
    x.image();
    for (int i = 0; i < 100; i++) {
      x.perform(i % 4);
      x.run(i % 4, 1);
      x.undo();
      x.spell(0, 0);
    }
    int[] then = held(x);
    check.is("objects and arrays behind calls", then[0], made[0]);
    check.is("fields and elements behind calls", then[1], made[1]);
  }

  /** How many objects and arrays, and how many fields and elements, can be reached from this one. */
  private static int[] held(Object from) throws IllegalAccessException {
    Set<Object> found = Collections.newSetFromMap(new IdentityHashMap<>());
    Deque<Object> left = new ArrayDeque<>(List.of(from));
    int cells = 0;
    while (!left.isEmpty()) {
      Object one = left.remove();
      if (!found.add(one)) continue;
      if (one.getClass().isArray()) {
        int length = java.lang.reflect.Array.getLength(one);
        cells += length;
        for (int i = 0; one instanceof Object[] && i < length; i++) left.add(((Object[]) one)[i]);
        continue;
      }
      for (java.lang.reflect.Field field : one.getClass().getDeclaredFields()) {
        if (java.lang.reflect.Modifier.isStatic(field.getModifiers())) continue;
        cells++;
        field.setAccessible(true);
        if (!field.getType().isPrimitive() && field.get(one) != null) left.add(field.get(one));
      }
    }
    return new int[] {found.size(), cells};
  }
}
