import java.io.IOException;
import java.lang.reflect.Field;
import java.lang.reflect.InvocationTargetException;
import java.lang.reflect.Method;
import java.lang.reflect.Modifier;
import java.nio.file.Files;
import java.nio.file.Path;
import java.util.Map;
import java.util.TreeMap;
import java.util.regex.Matcher;
import java.util.regex.Pattern;

/** The calls that README.md shows answer what stands behind them there; each method is named. */
public final class ReadmeTests extends Bench {
  private static final Pattern ROW = Pattern.compile(
      "(?:int (\\w+) = )?store\\.(\\w+)\\((.*)\\); +// (throws \\w+|-?\\d+|[A-Z_]+)(:.*)?");

  private static WatchedKeys store;
  private static final Map<String, String> named = new TreeMap<>();

  private static long number(String text) {
    String plain = named.getOrDefault(text, text);
    return Long.decode(plain.replaceFirst("L$", ""));
  }

  private static Method method(String name) {
    for (Method method : WatchedKeys.class.getDeclaredMethods()) {
      if (method.getName().equals(name) && Modifier.isPublic(method.getModifiers())) {
        return method;
      }
    }
    throw new IllegalStateException("no method " + name);
  }

  private static String call(String name, String list) throws IllegalAccessException {
    Method method = method(name);
    String[] texts = list.isEmpty() ? new String[0] : list.split(", ");
    Object[] given = new Object[texts.length];
    for (int i = 0; i < texts.length; i++) {
      boolean isLong = method.getParameterTypes()[i] == long.class;
      given[i] = isLong ? (Object) number(texts[i]) : (Object) (int) number(texts[i]);
    }
    try {
      return String.valueOf(method.invoke(store, given));
    } catch (InvocationTargetException e) {
      return nameOf(e.getCause()).replaceFirst("^throws\\.", "throws ");
    }
  }

  /** A constant is told by its name in README.md. */
  private static String plain(String due) throws IllegalAccessException {
    for (Field field : WatchedKeys.class.getFields()) {
      if (field.getName().equals(due)) {
        return String.valueOf(field.get(null));
      }
    }
    return due;
  }

  private static void testRow(String line) throws IllegalAccessException {
    Matcher row = ROW.matcher(line);
    if (!row.matches()) {
      wrong.add("no call with its answer: " + line);
      return;
    }
    String got = call(row.group(2), row.group(3));
    if (row.group(1) != null) {
      named.put(row.group(1), got);
    }
    due(plain(row.group(4)), got);
  }

  private static int testRows(String readme) throws IllegalAccessException {
    int rows = 0;
    Matcher block = Pattern.compile("(?s)```java\n(.*?)```").matcher(readme);
    while (block.find()) {
      for (String line : block.group(1).split("\n")) {
        place = "README.md, " + line;
        if (line.equals("WatchedKeys store = new WatchedKeys();")) {
          store = new WatchedKeys();
        } else {
          rows++;
          testRow(line);
        }
      }
    }
    return rows;
  }

  private static void testNames(String readme) {
    for (Method method : WatchedKeys.class.getDeclaredMethods()) {
      if (Modifier.isPublic(method.getModifiers()) && !readme.contains("`" + method.getName() + "`")) {
        wrong.add("README.md does not name " + method.getName());
      }
    }
    for (Field field : WatchedKeys.class.getFields()) {
      if (!readme.contains("`" + field.getName() + "`")) {
        wrong.add("README.md does not name " + field.getName());
      }
    }
  }

  public static void main(String[] args) throws IOException, IllegalAccessException {
    String readme = Files.readString(Path.of("README.md"));
    int rows = testRows(readme);
    testNames(readme);
    for (String line : wrong) {
      System.out.println(line);
    }
    System.out.println(rows + " calls of README.md made, " + wrong.size() + " wrong");
    if (!wrong.isEmpty() || rows == 0) {
      System.exit(1);
    }
  }
}
