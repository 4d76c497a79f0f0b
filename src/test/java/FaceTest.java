import java.lang.reflect.Constructor;
import java.lang.reflect.Field;
import java.lang.reflect.Method;
import java.lang.reflect.Modifier;
import java.util.Arrays;
import java.util.TreeSet;

/** The public face is the document's, whole, and nothing beside it can be seen from outside. */
public final class FaceTest {
  private static final String[] METHODS = {
    "int feed(int,int,int,int,int)", "boolean end(int)", "int fault(int)", "int text(int)", "int rule(int)",
    "int page(int,int)", "int version(int,int)", "int room(int,int)", "int mapped(int,int)", "int core(int,int)",
    "int seen(int,int,int)", "int copyOf(int,int)", "int create(int)", "int slots()",
    "int add(int,int,int,int,int)", "int extend(int,int)", "int seal(int,int)", "int enter(int,int,int)",
    "int leave(int)", "int trap(int)", "int resume(int,int,int)", "int touch(int,int,int)", "int block(int)",
    "int track(int)", "int evict(int,int,int)", "int load(int,int,int)", "int remove(int)", "int map(int,int,int)",
    "int twice(int)", "int change(int,int)", "int drop(int)", "int tell(int,int)", "int report(int,int)",
    "boolean proves(int,int,int,int)", "int status(int)", "int undo()", "int log(int,int)", "int old()",
    "int twins(int)", "int waits(int)", "int leaks(int)", "int lies(int)", "int victim()", "int paper(int)",
    "boolean alike(int,int)", "int spell(int,int)", "int step(int,int,int)", "int run(int,int)", "int perform(int)",
    "int all(int)", "int image()", "int back()", "int count(int)"
  };

  public static void main(String[] args) {
    Check check = new Check("FaceTest");
    TreeSet<String> seen = new TreeSet<>();
    TreeSet<String> publicNames = new TreeSet<>();
    for (Method method : ClosedRooms.class.getDeclaredMethods()) {
      if (Modifier.isPrivate(method.getModifiers()) || method.isSynthetic()) continue;
      check.is(method.getName() + " is public and not static", Modifier.isPublic(method.getModifiers())
          && !Modifier.isStatic(method.getModifiers()), true);
      seen.add(signature(method));
      publicNames.add(method.getName());
    }
    check.is("the methods are those of the document", seen.equals(new TreeSet<>(Arrays.asList(METHODS))), true);
    check.is("how many methods", METHODS.length, 53);
    for (Method method : ClosedRooms.class.getDeclaredMethods()) {
      if (Modifier.isPrivate(method.getModifiers())) {
        check.is("private " + method.getName() + " has a name of its own", publicNames.contains(method.getName()), false);
      }
    }
    fields(check);
    Constructor<?>[] constructors = ClosedRooms.class.getDeclaredConstructors();
    check.is("one constructor", constructors.length, 1);
    check.is("it is public and takes nothing", Modifier.isPublic(constructors[0].getModifiers())
        && constructors[0].getParameterCount() == 0, true);
    check.is("the class is public and final", Modifier.isPublic(ClosedRooms.class.getModifiers())
        && Modifier.isFinal(ClosedRooms.class.getModifiers()), true);
    check.is("NONE", ClosedRooms.NONE, -1);
    check.is("HIDDEN", ClosedRooms.HIDDEN, -1000000);
    for (Class<?> inside : ClosedRooms.class.getDeclaredClasses()) {
      check.is(inside.getName() + " is static and not public", Modifier.isStatic(inside.getModifiers())
          && !Modifier.isPublic(inside.getModifiers()) && !Modifier.isProtected(inside.getModifiers()), true);
    }
    check.finish();
  }

  private static void fields(Check check) {
    for (Field field : ClosedRooms.class.getDeclaredFields()) {
      boolean told = field.getName().equals("NONE") || field.getName().equals("HIDDEN");
      check.is(field.getName() + " is public if told", Modifier.isPublic(field.getModifiers()), told);
      check.is(field.getName() + " is private if not told", Modifier.isPrivate(field.getModifiers()), !told);
      if (Modifier.isStatic(field.getModifiers())) {
        check.is(field.getName() + " is final", Modifier.isFinal(field.getModifiers()), true);
      }
    }
  }

  private static String signature(Method method) {
    StringBuilder text = new StringBuilder();
    text.append(method.getReturnType().getName()).append(' ').append(method.getName()).append('(');
    for (int i = 0; i < method.getParameterCount(); i++) {
      if (i > 0) text.append(',');
      text.append(method.getParameterTypes()[i].getName());
    }
    return text.append(')').toString();
  }
}
