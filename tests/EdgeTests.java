import java.io.IOException;
import java.lang.reflect.InvocationTargetException;
import java.lang.reflect.Method;
import java.nio.file.Files;
import java.nio.file.Path;
import java.util.ArrayList;
import java.util.Comparator;
import java.util.List;
import java.util.Map;
import java.util.TreeMap;
import java.util.regex.Matcher;
import java.util.regex.Pattern;

/**
 * Runs the tests of single sentences, and looks whether each of them names words that stand in the
 * document at its place, and whether each sentence of the terms and the promises is named by one.
 */
public final class EdgeTests extends Bench {
  private static final Class<?>[] PARTS = {ScriptEdges.class, StoreEdges.class, WatchEdges.class,
      LeaseEdges.class, TransactionEdges.class, OutputEdges.class};

  private static List<Method> tests() {
    List<Method> tests = new ArrayList<>();
    for (Class<?> part : PARTS) {
      for (Method method : part.getDeclaredMethods()) {
        if (method.isAnnotationPresent(Holds.class)) {
          tests.add(method);
        }
      }
    }
    // The machine lists them in no fixed order.
    tests.sort(Comparator.comparing(Method::getName));
    return tests;
  }

  /** The text of each section of the terms and of each promise. */
  private static Map<String, String> places() throws IOException {
    Map<String, String> places = new TreeMap<>();
    String place = "";
    for (String line : Files.readString(Path.of("../shared/DOC.md")).split("\n")) {
      Matcher section = Pattern.compile("([1-6])\\. [A-Z][a-z ]+").matcher(line);
      if (line.startsWith("## ")) {
        place = line.substring(3).replaceFirst("^(Promise \\d+):.*", "$1");
      } else if (section.matches()) {
        place = "Section " + section.group(1);
      } else {
        places.merge(place, line + "\n", String::concat);
      }
    }
    return places;
  }

  /** The sentences of a place, without the names of methods and parameters before them. */
  private static List<String> sentences(String text) {
    List<String> sentences = new ArrayList<>();
    for (String line : text.split("\n")) {
      for (String sentence : line.split("(?<=[.;]) ")) {
        String plain = sentence.replaceFirst("^(- )?`[^`]*(\\(|`: )(.*`: )?", "")
            .replaceFirst("[.;:]$", "").strip();
        if (!plain.isEmpty()) {
          sentences.add(plain);
        }
      }
    }
    return sentences;
  }

  private static boolean isNamed(String sentence, List<String> words) {
    for (String word : words) {
      String one = word.replaceFirst("[.;:]$", "");
      if (sentence.contains(one) || one.contains(sentence)) {
        return true;
      }
    }
    return false;
  }

  private static void lookAtNames(List<Method> tests) throws IOException {
    Map<String, String> places = places();
    Map<String, List<String>> words = new TreeMap<>();
    for (Method test : tests) {
      Holds holds = test.getAnnotation(Holds.class);
      for (String one : holds.says()) {
        words.computeIfAbsent(holds.at(), at -> new ArrayList<>()).add(one);
        if (!places.getOrDefault(holds.at(), "").contains(one)) {
          wrong.add(test.getName() + ": " + holds.at() + " does not say: " + one);
        }
      }
    }
    int named = 0;
    for (String at : places.keySet()) {
      if (at.startsWith("Promise") || at.startsWith("Section")) {
        for (String sentence : sentences(places.get(at))) {
          named++;
          if (!isNamed(sentence, words.getOrDefault(at, List.of()))) {
            wrong.add("no test names, of " + at + ": " + sentence);
          }
        }
      }
    }
    System.out.println(named + " sentences of " + places.size() + " places looked at");
  }

  private static void run(Method test) {
    Holds holds = test.getAnnotation(Holds.class);
    place = holds.at() + " \"" + String.join("\" \"", holds.says()) + "\"";
    try {
      test.setAccessible(true);
      test.invoke(null);
    } catch (InvocationTargetException e) {
      wrong.add(place + ": " + e.getCause() + " at " + e.getCause().getStackTrace()[0]);
    } catch (IllegalAccessException e) {
      throw new IllegalStateException(e);
    }
  }

  public static void main(String[] args) throws IOException {
    List<Method> tests = tests();
    for (Method test : tests) {
      run(test);
    }
    lookAtNames(tests);
    for (String line : wrong) {
      System.out.println(line);
    }
    System.out.println(tests.size() + " tests of sentences, " + wrong.size() + " wrong");
    if (!wrong.isEmpty()) {
      System.exit(1);
    }
  }
}
