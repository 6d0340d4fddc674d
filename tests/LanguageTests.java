import java.io.IOException;
import java.lang.management.ManagementFactory;
import java.lang.reflect.Constructor;
import java.lang.reflect.Field;
import java.lang.reflect.Method;
import java.lang.reflect.Modifier;
import java.nio.file.Files;
import java.nio.file.Path;
import java.util.ArrayList;
import java.util.List;
import java.util.Set;
import java.util.TreeSet;
import java.util.regex.Matcher;
import java.util.regex.Pattern;

/** The face of WatchedKeys, and the rules of ../shared/LANGUAGE.md that its text can be held to. */
public final class LanguageTests {
  private static final List<String> wrong = new ArrayList<>();

  private static void need(boolean right, String what) {
    if (!right) {
      wrong.add(what);
    }
  }

  /** The members that the document's face names, in the words of describe(). */
  private static Set<String> faceOfDocument() throws IOException {
    Set<String> face = new TreeSet<>();
    String document = Files.readString(Path.of("../shared/DOC.md"));
    int from = document.indexOf("```java");
    String block = document.substring(from, document.indexOf("```", from + 3));
    for (String line : block.split("\n")) {
      String member = line.strip();
      if (member.startsWith("public ") && member.endsWith(";")) {
        String plain = member.replaceAll("\\b(int|long) \\w+(?=[,)])", "$1");
        face.add(plain.substring(0, plain.length() - 1).replaceAll("\\s+", " "));
      }
    }
    return face;
  }

  private static String names(Class<?>[] types) {
    List<String> names = new ArrayList<>();
    for (Class<?> type : types) {
      names.add(type.getSimpleName());
    }
    return String.join(", ", names);
  }

  private static String throwsOf(Class<?>[] types) {
    return types.length == 0 ? "" : " throws " + names(types);
  }

  private static Set<String> faceOfClass() throws IllegalAccessException {
    Set<String> face = new TreeSet<>();
    for (Constructor<?> one : WatchedKeys.class.getDeclaredConstructors()) {
      face.add("public WatchedKeys(" + names(one.getParameterTypes()) + ")");
    }
    for (Method one : WatchedKeys.class.getDeclaredMethods()) {
      if (!Modifier.isPrivate(one.getModifiers()) && !one.isSynthetic()) {
        face.add(Modifier.toString(one.getModifiers()) + " " + one.getReturnType() + " "
            + one.getName() + "(" + names(one.getParameterTypes()) + ")"
            + throwsOf(one.getExceptionTypes()));
      }
    }
    for (Field one : WatchedKeys.class.getDeclaredFields()) {
      if (!Modifier.isPrivate(one.getModifiers()) && !one.isSynthetic()) {
        face.add(Modifier.toString(one.getModifiers()) + " " + one.getType() + " " + one.getName()
            + " = " + one.get(null));
      }
    }
    return face;
  }

  private static void testFace() throws IOException, IllegalAccessException {
    Set<String> due = faceOfDocument();
    Set<String> got = faceOfClass();
    need(due.size() == 64, "the document's face has 64 members, not " + due.size());
    need(due.equals(got), "the face differs: " + difference(due, got) + difference(got, due));
    need(Modifier.toString(WatchedKeys.class.getModifiers()).equals("public final"), "rule 1: class");
  }

  private static Set<String> difference(Set<String> one, Set<String> other) {
    Set<String> rest = new TreeSet<>(one);
    rest.removeAll(other);
    return rest;
  }

  private static void testInnerClasses() {
    Set<String> faceNames = new TreeSet<>();
    for (Method method : WatchedKeys.class.getMethods()) {
      faceNames.add(method.getName());
    }
    Class<?>[] inner = WatchedKeys.class.getDeclaredClasses();
    need(inner.length <= 12, "rule 11: " + inner.length + " classes inside");
    for (Class<?> one : inner) {
      need(Modifier.isStatic(one.getModifiers()), "rule 2: " + one + " is not static");
      need(!Modifier.isPublic(one.getModifiers()), "rule 1: " + one + " is public");
      testMembers(one, faceNames);
    }
    testMembers(WatchedKeys.class, faceNames);
  }

  private static void testMembers(Class<?> one, Set<String> faceNames) {
    int fields = 0;
    for (Field field : one.getDeclaredFields()) {
      boolean isStatic = Modifier.isStatic(field.getModifiers());
      fields += isStatic ? 0 : 1;
      need(!isStatic || Modifier.isFinal(field.getModifiers()), "rule 5: " + field);
    }
    need(fields <= 20, "rule 11: " + one + " has " + fields + " fields");
    for (Method method : one.getDeclaredMethods()) {
      boolean hidden = Modifier.isPrivate(method.getModifiers()) && !method.isSynthetic();
      need(!hidden || !faceNames.contains(method.getName()), "rule 1: " + method);
      need(method.getParameterCount() <= 7, "rule 11: " + method);
    }
  }

  private static void testText(String source) {
    String code = source.replaceAll("(?s)/\\*.*?\\*/", "").replaceAll("//[^\n]*", "")
        .replaceAll("\"[^\"]*\"", "\"\"");
    for (char sign : source.toCharArray()) {
      need(sign == '\n' || sign >= ' ' && sign < 127, "a sign of the source: " + (int) sign);
    }
    need(code.startsWith("import java.util.Arrays;\n"), "no package, one import");
    need(code.indexOf("import", 6) < 0, "rule 4: more than one import");
    String[] banned = {"->", "::", "synchronized", "assert ", "finally", "try ", "catch", "%", "Exact",
        "hashCode", "toString", "equals(", "java.lang", "Object", "static {", "instanceof", "volatile",
        "Thread", "nanoTime", "currentTime", "Random", "var ", "while (true)", "for (;;", "record "};
    for (String word : banned) {
      need(!code.contains(word), "not in the language's part: " + word);
    }
    Matcher library = Pattern.compile("\\b(Math|System|Arrays|Integer|Long|String)\\.(\\w+)").matcher(code);
    Set<String> allowed = Set.of("Math.min", "Math.max", "System.arraycopy", "Arrays.fill");
    while (library.find()) {
      need(allowed.contains(library.group()), "rule 4: " + library.group());
    }
    Matcher thrown = Pattern.compile("throw ([^;]*);").matcher(code);
    Set<String> exceptions =
        Set.of("new IllegalArgumentException()", "new IndexOutOfBoundsException()");
    while (thrown.find()) {
      need(exceptions.contains(thrown.group(1)), "rule 6: throw " + thrown.group(1));
    }
  }

  /** Methods of the face are indented by two, those of classes inside by four. */
  private static void testLengths(String source) {
    int start = 0;
    int line = 0;
    for (String text : source.split("\n")) {
      line++;
      need(text.length() <= 110, "line " + line + " is long");
      if (text.matches(" {2}( {2})?(\\w.*)?\\w+\\(.*\\{") && !text.contains("class ")) {
        start = line;
      }
      if (text.matches(" {2}( {2})?\\}") && start > 0) {
        need(line - start < 60, "rule 11: a long method at line " + start);
        start = 0;
      }
    }
  }

  /** A run of the calls that do the most; what it makes is far below the room that a run has. */
  private static void testRoom() {
    com.sun.management.ThreadMXBean threads =
        (com.sun.management.ThreadMXBean) ManagementFactory.getThreadMXBean();
    long least = Long.MAX_VALUE;
    for (int run = 0; run < 3; run++) {
      long before = threads.getThreadAllocatedBytes(Thread.currentThread().getId());
      useMuch();
      least = Math.min(least, threads.getThreadAllocatedBytes(Thread.currentThread().getId()) - before);
    }
    need(least < 500000, "a run of 512 calls takes " + least + " bytes");
  }

  private static void useMuch() {
    WatchedKeys x = new WatchedKeys();
    for (int i = 0; i < 50; i++) {
      x.append(0x7075742035203120L);
      x.load();
      x.put(i % 20, i, 0);
      x.revert(1);
      x.saveSnapshot(i % 2);
      x.restoreSnapshot(i % 2);
      x.changed(0, 1);
      x.busiest();
      x.writeKey(5);
      x.commit();
    }
  }

  public static void main(String[] args) throws IOException, IllegalAccessException {
    String source = Files.readString(Path.of("src/main/java/WatchedKeys.java"));
    testFace();
    testInnerClasses();
    testText(source);
    testLengths(source);
    testRoom();
    for (String line : wrong) {
      System.out.println(line);
    }
    System.out.println("the face, the rules and the room looked at, " + wrong.size() + " wrong");
    if (!wrong.isEmpty()) {
      System.exit(1);
    }
  }
}
