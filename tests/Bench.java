import java.util.ArrayList;
import java.util.List;

/** What the tests share: looks at an answer, and texts that tell a state. */
abstract class Bench {
  interface Call {
    Object answer();
  }

  interface Act {
    Object on(WatchedKeys x);
  }

  interface NumberAct {
    Object on(WatchedKeys x, int number);
  }

  interface RangeAct {
    Object on(WatchedKeys x, int from, int to);
  }

  interface Maker {
    WatchedKeys make();
  }

  static final int NONE = WatchedKeys.NONE;
  static final int FULL = WatchedKeys.FULL;
  static final int NO_LEASE = WatchedKeys.NO_LEASE;
  static final int TWICE = WatchedKeys.TWICE;
  static final int MISSED = WatchedKeys.MISSED;
  static final int COMPACTED = WatchedKeys.COMPACTED;
  static final int FUTURE = WatchedKeys.FUTURE;
  static final int NO_VALUE = WatchedKeys.NO_VALUE;
  static final int LEAST = Integer.MIN_VALUE;
  static final int MOST = Integer.MAX_VALUE;
  static final String ILLEGAL = "throws.IllegalArgumentException";
  static final String OUTSIDE = "throws.IndexOutOfBoundsException";

  static final List<String> wrong = new ArrayList<>();
  /** What is tested at the moment. */
  static String place = "";

  static void due(Object want, Object got) {
    if (!want.equals(got)) {
      wrong.add(place + ", " + caller() + ": answered " + got + ", due is " + want);
    }
  }

  /** The file and the line of the test that called. */
  private static String caller() {
    for (StackTraceElement frame : new Throwable().getStackTrace()) {
      if (!"Bench.java".equals(frame.getFileName())) {
        return frame.getFileName() + " " + frame.getLineNumber();
      }
    }
    return "";
  }

  static Object answerOf(Call call) {
    try {
      return call.answer();
    } catch (RuntimeException e) {
      return nameOf(e);
    }
  }

  /**
   * Tells an exception by its name. What the machine throws has another name than what a program
   * throws, or comes out of the library, which is told with it.
   */
  static String nameOf(Throwable thrown) {
    StackTraceElement[] trace = thrown.getStackTrace();
    String thrower = trace.length == 0 ? "" : trace[0].getClassName();
    boolean isLibrary = thrower.startsWith("java.") || thrower.startsWith("jdk.");
    return "throws." + thrown.getClass().getSimpleName() + (isLibrary ? " from " + thrower : "");
  }

  static void dueIllegal(Call call) {
    due(ILLEGAL, answerOf(call));
  }

  static void dueOutside(Call call) {
    due(OUTSIDE, answerOf(call));
  }

  /** A call on a store of this kind answers this, or throws it, and changes nothing. */
  static void dueRefusal(Object want, Maker maker, Act act) {
    WatchedKeys x = maker.make();
    due(want, answerOf(() -> act.on(x)));
    due(all(maker.make()), all(x));
  }

  static void dueIllegal(Act act) {
    dueRefusal(ILLEGAL, Bench::rich, act);
  }

  static void dueOutside(Act act) {
    dueRefusal(OUTSIDE, Bench::rich, act);
  }

  /** A call on the rich store does not throw. */
  static void dueAllowed(Act act) {
    WatchedKeys x = rich();
    Object got = answerOf(() -> act.on(x));
    due(false, got instanceof String);
  }

  /** A parameter may be from least to most, and nothing else. */
  static void dueLimits(int least, int most, NumberAct act) {
    dueAllowed(x -> act.on(x, least));
    dueAllowed(x -> act.on(x, most));
    if (least > LEAST) {
      dueIllegal(x -> act.on(x, least - 1));
      dueIllegal(x -> act.on(x, LEAST));
    }
    if (most < MOST) {
      dueIllegal(x -> act.on(x, most + 1));
      dueIllegal(x -> act.on(x, MOST));
    }
  }

  /** TO may be 0 to 999, FROM 0 to TO, and nothing else. */
  static void dueRangeLimits(RangeAct act) {
    int[][] right = {{0, 0}, {0, 999}, {999, 999}, {5, 5}, {5, 6}};
    for (int[] range : right) {
      dueAllowed(x -> act.on(x, range[0], range[1]));
    }
    int[][] outside = {{-1, 5}, {-1, -1}, {0, -1}, {6, 5}, {999, 998}, {0, 1000}, {1000, 1000},
        {1000, 999}, {LEAST, 5}, {5, LEAST}, {0, MOST}, {MOST, MOST}, {LEAST, MOST}};
    for (int[] range : outside) {
      dueIllegal(x -> act.on(x, range[0], range[1]));
    }
  }

  /** A watch may be 0 to the last one, of which the rich store has two. */
  static void dueWatchLimits(NumberAct act) {
    dueAllowed(x -> act.on(x, 0));
    dueAllowed(x -> act.on(x, 1));
    for (int watch : new int[] {-1, 2, 7, 8, LEAST, MOST}) {
      dueOutside(x -> act.on(x, watch));
      dueRefusal(OUTSIDE, WatchedKeys::new, x -> act.on(x, watch));
    }
    dueRefusal(OUTSIDE, WatchedKeys::new, x -> act.on(x, 0));
  }

  static int append(WatchedKeys x, String text) {
    int length = x.append(0L);
    for (int i = 0; i < text.length(); i += 8) {
      long bytes = 0;
      for (int j = i; j < Math.min(text.length(), i + 8); j++) {
        bytes = bytes << 8 | text.charAt(j);
      }
      length = x.append(bytes);
    }
    return length;
  }

  static WatchedKeys loaded(String text) {
    WatchedKeys x = new WatchedKeys();
    append(x, text);
    if (x.load() < 0) {
      wrong.add(place + ", " + caller() + ": script refused: " + text);
    }
    return x;
  }

  /** Loads a right script and looks at the number of its statements. */
  static void dueLoad(String text, int statements) {
    WatchedKeys x = new WatchedKeys();
    append(x, text);
    due("\"" + text + "\" " + statements + " 0 -1",
        "\"" + text + "\" " + x.load() + " " + x.loadError() + " " + x.loadStatement());
  }

  /** Loads a wrong script and looks at the position, the kind and the statement of its error. */
  static void dueError(String text, int position, int kind, int statement) {
    WatchedKeys x = new WatchedKeys();
    append(x, text);
    due("\"" + text + "\" " + (-100 - position) + " " + kind + " " + statement,
        "\"" + text + "\" " + x.load() + " " + x.loadError() + " " + x.loadStatement());
  }

  static void fill(WatchedKeys x, int from, int keys) {
    for (int key = from; key < from + keys; key++) {
      x.put(key, key, 0);
    }
  }

  /** A store with the keys from FROM on. */
  static WatchedKeys filled(int from, int keys) {
    WatchedKeys x = new WatchedKeys();
    fill(x, from, keys);
    return x;
  }

  /**
   * Something of everything: three keys, two of a lease; events, some of them compacted; a watch
   * that has missed an event, one that was told; a transaction; a snapshot, an output, a buffer.
   */
  static WatchedKeys rich() {
    WatchedKeys x = loaded("grant 50;grant 9;put 5 50 1;put 6 60;put 5 51 1;"
        + "watch 0 99 1;watch 6 9 1;del 6;put 7 70;put 0 1 1;tick 3");
    x.take(0);
    x.compact(3);
    x.admit(1);
    x.when(5, 0, 0, 51);
    x.when(7, 3, 0, 1);
    x.then(0, 8, 80);
    x.then(1, 5, 0);
    x.otherwise(1, 7, 0);
    x.saveSnapshot(0);
    x.put(7, 71, 2);
    x.writeKey(5);
    append(x, "put 5 5");
    return x;
  }

  /** All that can be told of a store. It is not to be used any more then. */
  static String all(WatchedKeys x) {
    StringBuilder text = new StringBuilder();
    text.append(x.loadError()).append(' ').append(x.loadStatement()).append(" \"").append(output(x))
        .append("\" ").append(x.append(0L)).append('\n').append(stored(x));
    text.append("\ncommit ").append(x.commit()).append(' ').append(counts(x)).append(' ')
        .append(x.digest(0)).append(x.count(5) > 0 ? " " + event(x, x.count(5) - 1) : "");
    for (int i = 0; i < x.count(4); i++) {
      text.append("\nwatch ").append(x.admit(i)).append(' ').append(x.take(i)).append(watch(x, i));
    }
    text.append("\ngrant ").append(x.grant(7)).append("\nload ").append(x.load()).append(' ')
        .append(counts(x));
    for (int slot = 0; slot < 2; slot++) {
      text.append("\nslot ").append(x.restoreSnapshot(slot)).append(' ').append(counts(x))
          .append(' ').append(x.digest(0));
    }
    return text.toString();
  }

  /** All that the store itself tells, by calls that change nothing. */
  static String stored(WatchedKeys x) {
    StringBuilder text = new StringBuilder(counts(x));
    for (int i = 0; i < x.count(2); i++) {
      int key = x.keyAt(0, 999, i, 0);
      text.append("\nkey ").append(key(x, key)).append(' ')
          .append(x.versionAt(key, Math.max(1, x.get(key, 3))));
    }
    for (int i = 0; i < x.count(5); i++) {
      text.append("\nevent ").append(event(x, i));
    }
    for (int i = 0; i < x.count(4); i++) {
      text.append("\nwatch ").append(watch(x, i)).append(" took ").append(taken(x, i));
    }
    for (int lease = 1; lease <= 9; lease++) {
      text.append("\nlease ").append(lease(x, lease));
    }
    return text.append("\nholds ").append(x.holds()).append(' ').append(x.wouldWrite()).toString();
  }

  static String output(WatchedKeys x) {
    StringBuilder text = new StringBuilder();
    for (int i = 0; i < 100 && x.outputByte(i) != NONE; i++) {
      text.append((char) x.outputByte(i));
    }
    return text.toString();
  }

  static String key(WatchedKeys x, int key) {
    StringBuilder text = new StringBuilder().append(key);
    for (int what = 0; what <= 4; what++) {
      text.append(' ').append(x.get(key, what));
    }
    return text.toString();
  }

  static String event(WatchedKeys x, int index) {
    StringBuilder text = new StringBuilder();
    for (int what = 0; what <= 5; what++) {
      text.append(what == 0 ? "" : " ").append(x.event(index, what));
    }
    return text.toString();
  }

  static String taken(WatchedKeys x, int watch) {
    StringBuilder text = new StringBuilder();
    for (int what = 0; what <= 5; what++) {
      text.append(what == 0 ? "" : " ").append(x.taken(watch, what));
    }
    return text.toString();
  }

  static String watch(WatchedKeys x, int watch) {
    StringBuilder text = new StringBuilder();
    for (int what = 0; what <= 6; what++) {
      text.append(what == 0 ? "" : " ").append(x.watchValue(watch, what));
    }
    return text.toString();
  }

  static String lease(WatchedKeys x, int lease) {
    return x.lease(lease, 0) + " " + x.lease(lease, 1) + " " + x.lease(lease, 2);
  }

  static String counts(WatchedKeys x) {
    StringBuilder text = new StringBuilder();
    for (int what = 0; what <= 9; what++) {
      text.append(what == 0 ? "" : " ").append(x.count(what));
    }
    return text.toString();
  }

  /** The keys that there were at a revision. */
  static String keys(WatchedKeys x, int revision) {
    StringBuilder text = new StringBuilder();
    for (int i = 0; i < x.keysAt(0, 999, revision); i++) {
      text.append(i == 0 ? "" : " ").append(x.keyAt(0, 999, i, revision));
    }
    return text.toString();
  }

  /** The revisions of the events that a watch takes until none waits any more. */
  static String takeAll(WatchedKeys x, int watch) {
    StringBuilder text = new StringBuilder();
    int revision = x.take(watch);
    for (int i = 0; i < 200 && revision >= 0; i++) {
      text.append(revision).append(' ');
      revision = x.take(watch);
    }
    return text.append(revision).toString();
  }
}
