import java.io.IOException;
import java.lang.reflect.Field;
import java.lang.reflect.Method;
import java.lang.reflect.Modifier;
import java.nio.file.Files;
import java.nio.file.Path;
import java.util.ArrayList;
import java.util.List;
import java.util.Set;
import java.util.TreeSet;
import java.util.regex.Matcher;
import java.util.regex.Pattern;

/** What a test can see of the rules in LANGUAGE.md; the number of a rule stands before what is looked at. */
final class LanguageTest {
  private static final Path SOURCE = Path.of("src/main/java/HeadCount.java");
  private static final Set<String> FACE = Set.of("write", "wipe", "read", "holds", "fails", "ways", "length");
  /** Of the library's methods these are allowed and needed. */
  private static final Set<String> LIBRARY = Set.of("indexOf", "length", "bitCount");
  private static final Set<String> THROWN = Set.of("IllegalStateException", "IllegalArgumentException");
  private static final Set<String> BEFORE_BRACKETS = Set.of("if", "for", "while", "switch", "return");
  private static final Pattern METHOD = Pattern.compile("( +)(?:\\w+(?:\\[\\])? )*(\\w+)\\(.*\\).* \\{");

  private LanguageTest() {}

  public static void main(String[] args) throws IOException {
    String source = bare(Files.readString(SOURCE));
    List<Class<?>> classes = classes();
    Check.due("one file", List.of("HeadCount.java"), LanguageTest::files);
    Check.due("1: classes inside that are seen or not static", List.of(), () -> wrongClasses(classes));
    Check.due("1: private methods named as public ones", List.of(), () -> namedAsPublic(classes));
    Check.due("2, 6, 13: words and signs that are not allowed", List.of(), () -> notAllowed(source));
    Check.due("3: fields of other types", List.of(), () -> wrongTypes(classes));
    Check.due("4: other calls of the library", List.of(), () -> otherCalls(source));
    Check.due("5: static fields that are no constants", List.of(), () -> notConstant(classes));
    Check.due("6: other exceptions", List.of(), () -> otherExceptions(source));
    Check.due("8: calls that stand open at once", List.of(), LanguageTest::tooManyOpenCalls);
    Check.due("11: too many parameters, fields or classes", List.of(), () -> tooMany(classes));
    Check.due("11: methods that are too long", List.of(), () -> tooLong(source));
    Check.end();
  }

  /** The source without comments, and with nothing in its texts and characters. */
  private static String bare(String source) {
    String code = source.replaceAll("\"[^\"\n]*\"", "\"\"").replaceAll("'\\\\?[^\n]'", "' '");
    return code.replaceAll("(?s)/\\*.*?\\*/", "").replaceAll("//[^\n]*", "");
  }

  private static List<String> files() throws IOException {
    try (var files = Files.list(SOURCE.getParent())) {
      return files.map(file -> file.getFileName().toString()).sorted().toList();
    }
  }

  private static List<Class<?>> classes() {
    List<Class<?>> classes = new ArrayList<>(List.of(HeadCount.class));
    for (int place = 0; place < classes.size(); place++) {
      classes.addAll(List.of(classes.get(place).getDeclaredClasses()));
    }
    return classes;
  }

  private static List<String> wrongClasses(List<Class<?>> classes) {
    List<String> wrong = new ArrayList<>();
    for (Class<?> inside : classes.subList(1, classes.size())) {
      int modifiers = inside.getModifiers();
      if (Modifier.isPublic(modifiers) || Modifier.isProtected(modifiers) || !Modifier.isStatic(modifiers)) {
        wrong.add(inside.getName());
      }
    }
    return wrong;
  }

  private static List<String> namedAsPublic(List<Class<?>> classes) {
    List<String> wrong = new ArrayList<>();
    for (Class<?> each : classes) {
      for (Method method : each.getDeclaredMethods()) {
        if (!Modifier.isPublic(method.getModifiers()) && FACE.contains(method.getName())) {
          wrong.add(method.toString());
        }
      }
    }
    return wrong;
  }

  private static List<String> notAllowed(String source) {
    String words = "import|package|try|catch|finally|synchronized|assert|native|volatile|Thread|Random|Object|var|yield";
    return found(source, "\\b(" + words + ")\\b|->|::|static \\{|System\\.(?!arraycopy)|Exact\\b");
  }

  private static List<String> found(String source, String wanted) {
    List<String> found = new ArrayList<>();
    for (Matcher matcher = Pattern.compile(wanted).matcher(source); matcher.find();) {
      found.add(matcher.group());
    }
    return found;
  }

  private static List<String> wrongTypes(List<Class<?>> classes) {
    List<String> wrong = new ArrayList<>();
    for (Class<?> each : classes) {
      for (Field field : each.getDeclaredFields()) {
        Class<?> type = field.getType().isArray() ? field.getType().getComponentType() : field.getType();
        if (!type.isPrimitive() && type != String.class && !classes.contains(type)) {
          wrong.add(field.toString());
        }
      }
    }
    return wrong;
  }

  private static List<String> otherCalls(String source) {
    Set<String> own = new TreeSet<>(List.of("HeadCount", "Node", "Parser", "World"));
    for (Class<?> each : classes()) {
      for (Method method : each.getDeclaredMethods()) {
        own.add(method.getName());
      }
    }
    List<String> other = found(source, "\\w+(?= ?\\()");
    other.removeIf(name -> own.contains(name) || LIBRARY.contains(name) || THROWN.contains(name)
        || BEFORE_BRACKETS.contains(name));
    return other;
  }

  private static List<String> notConstant(List<Class<?>> classes) {
    Set<Class<?>> types = Set.of(int.class, long.class, boolean.class, char.class, String.class);
    List<String> wrong = new ArrayList<>();
    for (Class<?> each : classes) {
      for (Field field : each.getDeclaredFields()) {
        boolean isConstant = Modifier.isFinal(field.getModifiers()) && types.contains(field.getType());
        if (Modifier.isStatic(field.getModifiers()) && !isConstant) {
          wrong.add(field.toString());
        }
      }
    }
    return wrong;
  }

  private static List<String> otherExceptions(String source) {
    List<String> thrown = found(source, "throw [^;]*;");
    thrown.removeIf(text -> text.matches("throw new (" + String.join("|", THROWN) + ")\\((\"\")?\\);"));
    return thrown;
  }

  /** What is refused at the deepest place shows how many calls stood open there. */
  private static List<String> tooManyOpenCalls() {
    List<String> wrong = new ArrayList<>();
    String[] deepest = {"(n=1|n=1&".repeat(12) + "x", "(n=1|n=1&".repeat(11) + "#x", "#" + "(0+1*".repeat(11) + "x"};
    for (String text : deepest) {
      try {
        Check.withText(text).read();
      } catch (IllegalArgumentException refused) {
        int open = refused.getStackTrace().length;
        if (open >= 300) {
          wrong.add(text + " " + open);
        }
      }
    }
    return wrong;
  }

  private static List<String> tooMany(List<Class<?>> classes) {
    List<String> wrong = new ArrayList<>();
    for (Class<?> each : classes) {
      int fields = 0;
      for (Field field : each.getDeclaredFields()) {
        fields += Modifier.isStatic(field.getModifiers()) ? 0 : 1;
      }
      for (Method method : each.getDeclaredMethods()) {
        if (method.getParameterCount() > 7) {
          wrong.add(method.toString());
        }
      }
      if (fields > 20) {
        wrong.add(each.getName());
      }
    }
    if (classes.size() > 12) {
      wrong.add("classes");
    }
    return wrong;
  }

  private static List<String> tooLong(String source) {
    List<String> wrong = new ArrayList<>();
    String[] lines = source.split("\n");
    for (int start = 0; start < lines.length; start++) {
      Matcher method = METHOD.matcher(lines[start]);
      if (method.matches() && !BEFORE_BRACKETS.contains(method.group(2))) {
        int end = start;
        while (end < lines.length && !lines[end].equals(method.group(1) + "}")) {
          end++;
        }
        if (end - start > 60) {
          wrong.add(method.group(2));
        }
      }
    }
    return wrong;
  }
}
