import java.io.IOException;
import java.lang.management.ManagementFactory;
import java.lang.reflect.Constructor;
import java.lang.reflect.Field;
import java.lang.reflect.Method;
import java.lang.reflect.Modifier;
import java.nio.file.Files;
import java.nio.file.Path;
import java.util.ArrayList;
import java.util.List;
import java.util.Set;
import java.util.TreeSet;
import java.util.regex.Matcher;
import java.util.regex.Pattern;

/** The face of WatchedKeys, and the rules of ../shared/LANGUAGE.md that its text can be held to. */
public final class LanguageTests {
  private static final List<String> wrong = new ArrayList<>();
  // Where a rule says "some twelve", "some twenty", "some sixty", a little more is let pass.
  private static final int MOST_CLASSES = 14;
  private static final int MOST_FIELDS = 22;
  private static final int MOST_LINES = 66;
  // No object takes less than 16 bytes, so that this is a fifth of the room of 600,000 at most.
  private static final long MOST_BYTES = 2000000;

  private static void need(boolean right, String what) {
    if (!right) {
      wrong.add(what);
    }
  }

  /** The members that the document's face names, in the words of describe(). */
  private static Set<String> faceOfDocument() throws IOException {
    Set<String> face = new TreeSet<>();
    String document = Files.readString(Path.of("../shared/DOC.md"));
    int from = document.indexOf("```java");
    String block = document.substring(from, document.indexOf("```", from + 3));
    for (String line : block.split("\n")) {
      String member = line.strip();
      if (member.startsWith("public ") && member.endsWith(";")) {
        String plain = member.replaceAll("\\b(int|long) \\w+(?=[,)])", "$1");
        face.add(plain.substring(0, plain.length() - 1).replaceAll("\\s+", " "));
      }
    }
    return face;
  }

  private static String names(Class<?>[] types) {
    List<String> names = new ArrayList<>();
    for (Class<?> type : types) {
      names.add(type.getSimpleName());
    }
    return String.join(", ", names);
  }

  private static String throwsOf(Class<?>[] types) {
    return types.length == 0 ? "" : " throws " + names(types);
  }

  private static Set<String> faceOfClass() throws IllegalAccessException {
    Set<String> face = new TreeSet<>();
    for (Constructor<?> one : WatchedKeys.class.getDeclaredConstructors()) {
      if (!Modifier.isPrivate(one.getModifiers())) {
        face.add("public WatchedKeys(" + names(one.getParameterTypes()) + ")");
      }
    }
    for (Method one : WatchedKeys.class.getDeclaredMethods()) {
      if (!Modifier.isPrivate(one.getModifiers()) && !one.isSynthetic()) {
        face.add(Modifier.toString(one.getModifiers()) + " " + one.getReturnType() + " "
            + one.getName() + "(" + names(one.getParameterTypes()) + ")"
            + throwsOf(one.getExceptionTypes()));
      }
    }
    for (Field one : WatchedKeys.class.getDeclaredFields()) {
      if (!Modifier.isPrivate(one.getModifiers()) && !one.isSynthetic()) {
        face.add(Modifier.toString(one.getModifiers()) + " " + one.getType() + " " + one.getName()
            + " = " + one.get(null));
      }
    }
    return face;
  }

  private static void testFace() throws IOException, IllegalAccessException {
    Set<String> due = faceOfDocument();
    Set<String> got = faceOfClass();
    need(due.size() == 64, "the document's face has 64 members, not " + due.size());
    need(due.equals(got), "the face differs: " + difference(due, got) + difference(got, due));
    need(Modifier.toString(WatchedKeys.class.getModifiers()).equals("public final"), "rule 1: class");
  }

  private static Set<String> difference(Set<String> one, Set<String> other) {
    Set<String> rest = new TreeSet<>(one);
    rest.removeAll(other);
    return rest;
  }

  private static void testClasses() {
    Set<String> faceNames = new TreeSet<>();
    for (Method method : WatchedKeys.class.getMethods()) {
      faceNames.add(method.getName());
    }
    Class<?>[] inner = WatchedKeys.class.getDeclaredClasses();
    need(inner.length < MOST_CLASSES, "rule 11: " + inner.length + " classes inside");
    for (Class<?> one : inner) {
      boolean isHidden = !Modifier.isPublic(one.getModifiers()) && !Modifier.isProtected(one.getModifiers());
      need(Modifier.isStatic(one.getModifiers()), "rule 1: " + one + " is not static");
      need(isHidden, "rule 1: " + one + " is public or protected");
      testMembers(one, faceNames);
    }
    testMembers(WatchedKeys.class, faceNames);
  }

  private static void testMembers(Class<?> one, Set<String> faceNames) {
    int fields = 0;
    for (Field field : one.getDeclaredFields()) {
      boolean isStatic = Modifier.isStatic(field.getModifiers());
      fields += isStatic ? 0 : 1;
      need(!isStatic || Modifier.isFinal(field.getModifiers()), "rule 5: " + field);
    }
    need(fields <= MOST_FIELDS, "rule 11: " + one + " has " + fields + " fields");
    for (Method method : one.getDeclaredMethods()) {
      boolean isHidden = Modifier.isPrivate(method.getModifiers()) && !method.isSynthetic();
      need(!isHidden || !faceNames.contains(method.getName()), "rule 1: " + method);
      need(method.getParameterCount() <= 7, "rule 11: " + method);
    }
  }

  /** The text without comments; of texts in it, the quotes alone. */
  private static String codeOf(String source) {
    return source.replaceAll("(?s)/\\*.*?\\*/", "").replaceAll("//[^\n]*", "")
        .replaceAll("\"(\\\\.|[^\"\\\\])*\"", "\"\"");
  }

  private static void testWords(String code) {
    String[][] rules = {
        {"no package", "\\bpackage\\b"}, {"2: method reference", "::"},
        {"2: lambda", "(\\)|\\b(?!default\\b)[a-z]\\w*) ->"}, {"3: Object", "\\bObject\\b"},
        {"4: Exact", "\\w+Exact\\("}, {"5: initialiser block", "\\bstatic \\{"},
        {"6: synchronized", "\\bsynchronized\\b"}, {"6: assert", "\\bassert\\b"},
        {"6: finally", "\\bfinally\\b"}, {"6: try with resources", "\\btry \\("},
        {"6: hashCode", "\\bhashCode\\b"}, {"6: getMessage", "\\bgetMessage\\b"},
        {"6: exception class", "\\bextends \\w*(Exception|Error|Throwable)\\b"},
        {"6: catch", "\\bcatch \\((final )?(Exception|Throwable|Error|ArrayIndexOutOfBoundsException"
            + "|NullPointerException|ClassCastException|NegativeArraySizeException|ArrayStoreException)\\b"},
        {"9: endless loop", "\\bwhile \\(true\\)|\\bfor \\(;;"},
        {"13: clock, chance, outside", "\\b(Thread|Random|nanoTime|currentTimeMillis|volatile|getenv"
            + "|Runtime|File|Files|Socket)\\b"}};
    for (String[] rule : rules) {
      Matcher found = Pattern.compile(rule[1]).matcher(code);
      need(!found.find(), "rule " + rule[0]);
    }
  }

  private static void testLibrary(String code) {
    Matcher imports = Pattern.compile("(?m)^import (.*);").matcher(code);
    while (imports.find()) {
      need(imports.group(1).matches("java\\.util\\.(Arrays|ArrayList|List|Iterator|NoSuchElementException)"),
          "rule 4: import " + imports.group(1));
    }
    Matcher calls = Pattern.compile("\\b(Math|System|Arrays|String|StringBuilder)\\.(\\w+)").matcher(code);
    Set<String> ofMath = Set.of("min", "max", "abs", "floorDiv", "floorMod");
    Set<String> ofArrays = Set.of("copyOf", "copyOfRange", "fill");
    while (calls.find()) {
      boolean isAllowed = switch (calls.group(1)) {
        case "Math" -> ofMath.contains(calls.group(2));
        case "Arrays" -> ofArrays.contains(calls.group(2));
        case "System" -> calls.group(2).equals("arraycopy");
        default -> false;
      };
      need(isAllowed, "rule 4: " + calls.group());
    }
    Matcher thrown = Pattern.compile("\\bthrow ([^;]*);").matcher(code);
    while (thrown.find()) {
      need(thrown.group(1).matches("new (IllegalState|IllegalArgument|IndexOutOfBounds|Arithmetic"
          + "|UnsupportedOperation|NoSuchElement|Runtime)Exception\\((\"\")?\\)"),
          "rule 6: throw " + thrown.group(1));
    }
  }

  private static void testSigns(String source) {
    Matcher texts = Pattern.compile("\"(\\\\.|[^\"\\\\\n])*\"|'(\\\\.|[^'\\\\])'").matcher(source);
    while (texts.find()) {
      need(texts.group().chars().allMatch(sign -> sign >= 1 && sign <= 127), "rule 4: " + texts.group());
    }
  }

  /** Methods of the face are indented by two, those of classes inside by four. */
  private static void testLengths(String source) {
    int start = 0;
    int line = 0;
    for (String text : source.split("\n")) {
      line++;
      if (text.matches(" {2}( {2})?(\\w.*)?\\w+\\(.*\\{") && !text.contains("class ")) {
        start = line;
      }
      if (text.matches(" {2}( {2})?\\}") && start > 0) {
        need(line - start < MOST_LINES, "rule 11: a long method at line " + start);
        start = 0;
      }
    }
  }

  /** A run of the calls that do the most; what it makes is far below the room that a run has. */
  private static void testRoom() {
    com.sun.management.ThreadMXBean threads =
        (com.sun.management.ThreadMXBean) ManagementFactory.getThreadMXBean();
    long least = Long.MAX_VALUE;
    for (int run = 0; run < 3; run++) {
      long before = threads.getThreadAllocatedBytes(Thread.currentThread().getId());
      useMuch();
      least = Math.min(least, threads.getThreadAllocatedBytes(Thread.currentThread().getId()) - before);
    }
    need(least < MOST_BYTES, "a run of 512 calls takes " + least + " bytes");
  }

  private static void useMuch() {
    WatchedKeys x = new WatchedKeys();
    for (int i = 0; i < 50; i++) {
      x.append(0x7075742035203120L);
      x.load();
      x.put(i % 20, i, 0);
      x.revert(1);
      x.saveSnapshot(i % 2);
      x.restoreSnapshot(i % 2);
      x.changed(0, 1);
      x.busiest();
      x.writeKey(5);
      x.commit();
    }
  }

  public static void main(String[] args) throws IOException, IllegalAccessException {
    String source = Files.readString(Path.of("src/main/java/WatchedKeys.java"));
    String code = codeOf(source);
    testFace();
    testClasses();
    testWords(code);
    testLibrary(code);
    testSigns(source);
    testLengths(source);
    testRoom();
    for (String line : wrong) {
      System.out.println(line);
    }
    System.out.println("the face, the rules and the room looked at, " + wrong.size() + " wrong");
    if (!wrong.isEmpty()) {
      System.exit(1);
    }
  }
}
