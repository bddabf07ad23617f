import java.lang.reflect.Constructor;
import java.lang.reflect.Field;
import java.lang.reflect.Method;
import java.lang.reflect.Modifier;
import java.util.ArrayList;
import java.util.Arrays;
import java.util.Collections;
import java.util.List;

/** The public face: what the document names, and no other member that can be seen from outside. */
final class FaceTest {
  private static final String ISE = "java.lang.IllegalStateException";
  private static final String IAE = "java.lang.IllegalArgumentException";

  private FaceTest() {}

  public static void main(String[] args) {
    Check.due("modifiers", "public final", () -> Modifier.toString(HeadCount.class.getModifiers()));
    Check.due("constructors", List.of("public HeadCount()"), FaceTest::constructors);
    Check.due("methods", dueMethods(), FaceTest::methods);
    Check.due("fields", List.of(), FaceTest::fields);
    Check.due("public classes inside", 0, () -> HeadCount.class.getClasses().length);
    Check.end();
  }

  private static List<String> dueMethods() {
    List<String> due = new ArrayList<>(List.of(
        "public boolean HeadCount.write(long)",
        "public int HeadCount.wipe()",
        "public int HeadCount.read() throws " + IAE,
        "public boolean HeadCount.holds(int) throws " + ISE + "," + IAE,
        "public int HeadCount.fails() throws " + ISE,
        "public int HeadCount.ways(int) throws " + ISE + "," + IAE,
        "public int HeadCount.length()"));
    Collections.sort(due);
    return due;
  }

  private static List<String> constructors() {
    List<String> seen = new ArrayList<>();
    for (Constructor<?> constructor : HeadCount.class.getDeclaredConstructors()) {
      seen.add(constructor.toString());
    }
    return seen;
  }

  private static List<String> methods() {
    List<String> seen = new ArrayList<>();
    for (Method method : HeadCount.class.getDeclaredMethods()) {
      if (!Modifier.isPrivate(method.getModifiers())) {
        seen.add(method.toString());
      }
    }
    Collections.sort(seen);
    return seen;
  }

  private static List<String> fields() {
    List<String> seen = new ArrayList<>();
    for (Field field : Arrays.asList(HeadCount.class.getDeclaredFields())) {
      if (!Modifier.isPrivate(field.getModifiers())) {
        seen.add(field.toString());
      }
    }
    return seen;
  }
}
