import java.lang.reflect.InvocationTargetException;
import java.lang.reflect.Method;
import java.util.ArrayList;
import java.util.Arrays;
import java.util.List;
import java.util.Map;
import java.util.NoSuchElementException;
import java.util.Objects;
import java.util.Set;
import java.util.TreeMap;
import java.util.TreeSet;
import java.util.regex.Matcher;
import java.util.regex.Pattern;

/**
 * Long runs of calls on WatchedKeys and on a plain model of the document, which keeps every state
 * of every revision and a queue of events for each watch. Each run can be told again by its number.
 */
public final class ModelTests {
  private static final int RUNS = 3000;
  private static final int CALLS = 512;

  private record Event(int revision, int kind, int key, int value, int before, int lease,
      int version) {
    int number(int what) {
      return new int[] {revision, kind, key, value, before, lease}[what];
    }
  }

  private record Key(int value, int created, int written, int version, int lease) {
    int number(int what) {
      return new int[] {value, created, written, version, lease}[what];
    }
  }

  private record Condition(int key, int what, int relation, int number) {
  }

  private record Step(int kind, int key, int value) {
  }

  private static final class Watch {
    private int from;
    private int to;
    private int kinds;
    private List<Event> queue = new ArrayList<>();
    private int missed;
    private int took;
    private Event last;

    Watch copy() {
      Watch copy = new Watch();
      copy.from = from;
      copy.to = to;
      copy.kinds = kinds;
      copy.queue = new ArrayList<>(queue);
      copy.missed = missed;
      copy.took = took;
      copy.last = last;
      return copy;
    }

    void offer(Event e) {
      boolean kindSeen = kinds == 0 || kinds == 1 && e.kind == 0 || kinds == 2 && e.kind == 1;
      if (e.key >= from && e.key <= to && kindSeen) {
        queue.add(e);
      }
    }
  }

  private static final class State {
    private TreeMap<Integer, Key> keys = new TreeMap<>();
    private TreeMap<Integer, TreeMap<Integer, Integer>> values = new TreeMap<>();
    private List<Event> events = new ArrayList<>();
    private List<Watch> watches = new ArrayList<>();
    /** TTL and ticks left, by number. */
    private TreeMap<Integer, int[]> leases = new TreeMap<>();
    private List<Condition> conditions = new ArrayList<>();
    private List<Step> thenSteps = new ArrayList<>();
    private List<Step> elseSteps = new ArrayList<>();
    private int revision = 1;
    private int compacted;
    private int time;
    private int granted;

    State() {
      values.put(0, new TreeMap<>());
      values.put(1, new TreeMap<>());
    }

    State copy() {
      State copy = new State();
      copy.keys = new TreeMap<>(keys);
      copy.values = new TreeMap<>(values);
      copy.events = new ArrayList<>(events);
      for (Watch watch : watches) {
        copy.watches.add(watch.copy());
      }
      for (Map.Entry<Integer, int[]> lease : leases.entrySet()) {
        copy.leases.put(lease.getKey(), lease.getValue().clone());
      }
      copy.conditions = new ArrayList<>(conditions);
      copy.thenSteps = new ArrayList<>(thenSteps);
      copy.elseSteps = new ArrayList<>(elseSteps);
      copy.revision = revision;
      copy.compacted = compacted;
      copy.time = time;
      copy.granted = granted;
      return copy;
    }
  }

  /** What the document says, as plainly as it can be written. */
  public static final class Model {
    private State s = new State();
    private final State[] slots = new State[2];
    private String buffer = "";
    private String output = "";
    private int error;
    private int errorStatement = -1;

    private static void illegalUnless(boolean right) {
      if (!right) {
        throw new IllegalArgumentException();
      }
    }

    private static void key(int key) {
      illegalUnless(0 <= key && key <= 999);
    }

    private static void range(int from, int to) {
      key(to);
      illegalUnless(0 <= from && from <= to);
    }

    private Watch watchOf(int watch) {
      if (watch < 0 || watch >= s.watches.size()) {
        throw new IndexOutOfBoundsException();
      }
      return s.watches.get(watch);
    }

    // Changes: what a call does to keys is listed first and then done in one revision.

    private void change(List<Step> steps, Map<Integer, Integer> leases) {
      List<Event> made = new ArrayList<>();
      int r = s.revision + 1;
      for (Step step : steps) {
        Key old = s.keys.get(step.key);
        int before = old == null ? WatchedKeys.NO_VALUE : old.value;
        if (step.kind == 0) {
          int lease = leases.getOrDefault(step.key, 0);
          int created = old == null ? r : old.created;
          int version = old == null ? 1 : old.version + 1;
          s.keys.put(step.key, new Key(step.value, created, r, version, lease));
          made.add(new Event(r, 0, step.key, step.value, before, lease, version));
        } else if (old != null) {
          s.keys.remove(step.key);
          made.add(new Event(r, 1, step.key, 0, before, old.lease, old.version));
        }
      }
      if (made.isEmpty()) {
        return;
      }
      s.revision = r;
      TreeMap<Integer, Integer> values = new TreeMap<>();
      s.keys.forEach((k, v) -> values.put(k, v.value));
      s.values.put(r, values);
      for (Event e : made) {
        s.events.add(e);
        s.watches.forEach(w -> w.offer(e));
      }
      while (s.events.size() > 120) {
        compactTo(s.events.get(0).revision);
      }
    }

    private int compactTo(int revision) {
      int had = s.events.size();
      s.events.removeIf(e -> e.revision <= revision);
      for (Watch watch : s.watches) {
        int waited = watch.queue.size();
        watch.queue.removeIf(e -> e.revision <= revision);
        watch.missed += waited - watch.queue.size();
      }
      s.compacted = revision;
      return had - s.events.size();
    }

    private static List<Step> deletions(Iterable<Integer> keys) {
      List<Step> steps = new ArrayList<>();
      for (int key : keys) {
        steps.add(new Step(1, key, 0));
      }
      return steps;
    }

    private int refusal(int revision) {
      int asked = revision == 0 ? s.revision : revision;
      if (asked < s.compacted) {
        return WatchedKeys.COMPACTED;
      }
      return asked > s.revision ? WatchedKeys.FUTURE : 0;
    }

    private TreeMap<Integer, Integer> values(int revision) {
      return s.values.get(revision == 0 ? s.revision : revision);
    }

    private Map<Integer, Integer> valuesIn(int from, int to, int revision) {
      return values(revision).subMap(from, true, to, true);
    }

    public int append(long bytes) {
      String more = "";
      for (int i = 7; i >= 0; i--) {
        int one = (int) (bytes >> 8 * i) & 0xff;
        more += one == 0 ? "" : String.valueOf((char) one);
      }
      if (buffer.length() + more.length() > 500) {
        return WatchedKeys.FULL;
      }
      buffer += more;
      return buffer.length();
    }

    // Scripts: read by patterns at the front of what is left.

    private static final class ScriptError extends Exception {
      private final int kind;
      private final int position;

      ScriptError(int kind, int position) {
        this.kind = kind;
        this.position = position;
      }
    }

    private static final Map<String, String> FORMS = Map.of("put", "KV l", "del", "F t", "grant",
        "T", "keep", "L", "revoke", "L", "watch", "FO l", "compact", "R", "revert", "R", "tick",
        "T", "attach", "KL");

    public int load() {
      String text = buffer;
      buffer = "";
      State old = s;
      s = new State();
      int statements = 0;
      int at = 0;
      try {
        while (true) {
          at = statement(text, skip(text, at));
          at = skip(text, at);
          if (at == text.length()) {
            break;
          }
          if (text.charAt(at) != ';') {
            throw new ScriptError(1, at);
          }
          at++;
          statements++;
        }
      } catch (ScriptError e) {
        s = old;
        error = e.kind;
        errorStatement = statements;
        return -100 - e.position;
      }
      error = 0;
      errorStatement = -1;
      return statements + 1;
    }

    private static int skip(String text, int at) {
      int next = at;
      while (next < text.length() && text.charAt(next) == ' ') {
        next++;
      }
      return next;
    }

    private int statement(String text, int start) throws ScriptError {
      Matcher word = Pattern.compile("[a-z]+").matcher(text).region(start, text.length());
      if (!word.lookingAt() || !FORMS.containsKey(word.group())) {
        throw new ScriptError(1, start);
      }
      String form = FORMS.get(word.group());
      List<Integer> numbers = new ArrayList<>();
      int at = word.end();
      boolean optional = false;
      for (char kind : form.toCharArray()) {
        if (kind == ' ') {
          optional = true;
          continue;
        }
        int from = skip(text, at);
        String pattern = kind == 'V' ? "-?[0-9]+" : "[0-9]+";
        Matcher number = Pattern.compile(pattern).matcher(text).region(from, text.length());
        if (!number.lookingAt()) {
          if (optional) {
            break;
          }
          throw new ScriptError(1, from);
        }
        java.math.BigInteger big = new java.math.BigInteger(number.group());
        int value = big.bitLength() > 30 ? (big.signum() < 0 ? -99999999 : 99999999) : big.intValue();
        int least = kind == 'V' ? -1000000 : kind == 'T' || kind == 'R' ? 1
            : kind == 't' || kind == 'O' ? numbers.get(0) : 0;
        int most = kind == 'V' ? 1000000 : kind == 'T' ? 1000
            : kind == 'R' || kind == 'L' || kind == 'l' ? 9999 : 999;
        if (value < least || value > most) {
          throw new ScriptError(2, from);
        }
        numbers.add(value);
        at = number.end();
      }
      if (isRefused(word.group(), numbers)) {
        throw new ScriptError(3, start);
      }
      return at;
    }

    private boolean isRefused(String word, List<Integer> given) {
      int a = given.get(0);
      int b = given.size() > 1 ? given.get(1) : word.equals("del") ? a : 0;
      int c = given.size() > 2 ? given.get(2) : 0;
      int answer = switch (word) {
        case "put" -> put(a, b, c);
        case "del" -> delete(a, b);
        case "grant" -> grant(a);
        case "keep" -> keepAlive(a);
        case "revoke" -> revoke(a);
        case "watch" -> watch(a, b, c, 0);
        case "compact" -> compact(a);
        case "revert" -> revert(a);
        case "tick" -> tick(a);
        default -> attach(a, b);
      };
      Set<Integer> refusals = Set.of(WatchedKeys.FULL, WatchedKeys.NO_LEASE,
          WatchedKeys.COMPACTED, WatchedKeys.FUTURE);
      return refusals.contains(answer) || word.equals("attach") && answer == WatchedKeys.NONE;
    }

    public int loadError() {
      return error;
    }

    public int loadStatement() {
      return errorStatement;
    }

    public int count(int what) {
      illegalUnless(what >= 0 && what <= 9);
      return new int[] {s.revision, s.compacted, s.keys.size(), s.leases.size(), s.watches.size(),
          s.events.size(), s.time, s.conditions.size(), s.thenSteps.size(), s.elseSteps.size()}[what];
    }

    public int get(int key, int what) {
      key(key);
      illegalUnless(what >= 0 && what <= 4);
      return s.keys.containsKey(key) ? s.keys.get(key).number(what) : WatchedKeys.NO_VALUE;
    }

    public int getAt(int key, int revision) {
      key(key);
      illegalUnless(revision >= 0);
      int refusal = refusal(revision);
      return refusal != 0 ? refusal : values(revision).getOrDefault(key, WatchedKeys.NO_VALUE);
    }

    public int keysAt(int from, int to, int revision) {
      range(from, to);
      illegalUnless(revision >= 0);
      int refusal = refusal(revision);
      return refusal != 0 ? refusal : valuesIn(from, to, revision).size();
    }

    public int keyAt(int from, int to, int index, int revision) {
      range(from, to);
      illegalUnless(revision >= 0);
      if (refusal(revision) != 0) {
        return refusal(revision);
      }
      List<Integer> keys = new ArrayList<>(valuesIn(from, to, revision).keySet());
      return index < 0 || index >= keys.size() ? WatchedKeys.NONE : keys.get(index);
    }

    public long sumAt(int from, int to, int revision) {
      range(from, to);
      illegalUnless(revision >= 0);
      if (refusal(revision) != 0) {
        return refusal(revision);
      }
      return valuesIn(from, to, revision).values().stream().mapToLong(v -> v).sum();
    }

    public int changed(int one, int other) {
      illegalUnless(one >= 0 && other >= 0);
      if (refusal(one) != 0) {
        return refusal(one);
      }
      if (refusal(other) != 0) {
        return refusal(other);
      }
      Set<Integer> keys = new TreeSet<>(values(one).keySet());
      keys.addAll(values(other).keySet());
      keys.removeIf(k -> Objects.equals(values(one).get(k), values(other).get(k)));
      return keys.size();
    }

    public int digest(int revision) {
      illegalUnless(revision >= 0);
      if (refusal(revision) != 0) {
        return 0;
      }
      int number = 17;
      for (Map.Entry<Integer, Integer> one : values(revision).entrySet()) {
        number = 31 * number + one.getKey();
        number = 31 * number + one.getValue();
      }
      return number;
    }

    public int versionAt(int key, int version) {
      key(key);
      illegalUnless(version >= 1);
      Key present = s.keys.get(key);
      if (present == null) {
        return WatchedKeys.NO_VALUE;
      }
      return s.events.stream().filter(e -> e.key == key && e.kind == 0 && e.version == version
          && e.revision >= present.created).map(Event::value).findFirst()
          .orElse(WatchedKeys.NO_VALUE);
    }

    public int event(int index, int what) {
      if (index < 0 || index >= s.events.size()) {
        throw new IndexOutOfBoundsException();
      }
      illegalUnless(what >= 0 && what <= 5);
      return s.events.get(index).number(what);
    }

    public int writes(int key) {
      key(key);
      return (int) s.events.stream().filter(e -> e.key == key).count();
    }

    public int busiest() {
      int best = WatchedKeys.NONE;
      for (int key = 999; key >= 0; key--) {
        if (writes(key) > 0 && (best < 0 || writes(key) >= writes(best))) {
          best = key;
        }
      }
      return best;
    }

    public double deletedPart() {
      double deleted = s.events.stream().filter(e -> e.kind == 1).count();
      return s.events.isEmpty() ? 0.0 : deleted / s.events.size();
    }

    /** The keys of a range in the order in which they came into being. */
    private List<Integer> order(int from, int to) {
      List<Integer> keys = new ArrayList<>(s.keys.subMap(from, true, to, true).keySet());
      keys.sort((a, b) -> s.keys.get(a).created - s.keys.get(b).created);
      return keys;
    }

    public int leader(int from, int to) {
      range(from, to);
      List<Integer> order = order(from, to);
      return order.isEmpty() ? WatchedKeys.NONE : order.get(0);
    }

    public int ahead(int key, int from, int to) {
      key(key);
      range(from, to);
      List<Integer> order = order(from, to);
      int index = order.indexOf(key);
      return index <= 0 ? WatchedKeys.NONE : order.get(index - 1);
    }

    public int place(int key, int from, int to) {
      key(key);
      range(from, to);
      return order(from, to).indexOf(key);
    }

    public int put(int key, int value, int lease) {
      key(key);
      illegalUnless(Math.abs((long) value) <= 1000000);
      illegalUnless(lease >= 0);
      if (!s.keys.containsKey(key) && s.keys.size() == 16) {
        return WatchedKeys.FULL;
      }
      if (lease != 0 && !s.leases.containsKey(lease)) {
        return WatchedKeys.NO_LEASE;
      }
      change(List.of(new Step(0, key, value)), Map.of(key, lease));
      return s.revision;
    }

    public int delete(int from, int to) {
      range(from, to);
      List<Step> steps = deletions(s.keys.subMap(from, true, to, true).keySet());
      change(steps, Map.of());
      return steps.size();
    }

    public int compact(int revision) {
      illegalUnless(revision >= 1);
      if (revision <= s.compacted) {
        return WatchedKeys.COMPACTED;
      }
      return revision > s.revision ? WatchedKeys.FUTURE : compactTo(revision);
    }

    public int revert(int revision) {
      illegalUnless(revision >= 1);
      if (refusal(revision) != 0) {
        return refusal(revision);
      }
      TreeMap<Integer, Integer> then = values(revision);
      Set<Integer> gone = new TreeSet<>(s.keys.keySet());
      gone.removeAll(then.keySet());
      List<Step> steps = deletions(gone);
      for (int key : then.keySet()) {
        if (!Objects.equals(then.get(key), values(0).get(key))) {
          steps.add(new Step(0, key, then.get(key)));
        }
      }
      change(steps, Map.of());
      return steps.size();
    }

    public int attach(int key, int lease) {
      key(key);
      illegalUnless(lease >= 0);
      Key old = s.keys.get(key);
      if (old == null) {
        return WatchedKeys.NONE;
      }
      if (lease != 0 && !s.leases.containsKey(lease)) {
        return WatchedKeys.NO_LEASE;
      }
      s.keys.put(key, new Key(old.value, old.created, old.written, old.version, lease));
      return old.lease;
    }

    private void fillQueue(Watch watch, int start) {
      watch.queue.clear();
      int first = start == 0 ? s.revision + 1 : start;
      s.events.stream().filter(e -> e.revision >= first).forEach(watch::offer);
    }

    public int watch(int from, int to, int start, int kinds) {
      range(from, to);
      illegalUnless(start >= 0 && kinds >= 0 && kinds <= 2);
      if (s.watches.size() == 8) {
        return WatchedKeys.FULL;
      }
      if (start > s.revision + 1) {
        return WatchedKeys.FUTURE;
      }
      Watch watch = new Watch();
      watch.from = from;
      watch.to = to;
      watch.kinds = kinds;
      fillQueue(watch, start);
      s.watches.add(watch);
      return s.watches.size() - 1;
    }

    public int watchValue(int watch, int what) {
      Watch w = watchOf(watch);
      illegalUnless(what >= 0 && what <= 6);
      int state = w.missed > 0 ? 2 : w.queue.isEmpty() ? 0 : 1;
      return new int[] {w.from, w.to, w.kinds, w.queue.size(), w.took, state, w.missed}[what];
    }

    public int take(int watch) {
      Watch w = watchOf(watch);
      if (w.missed > 0) {
        return WatchedKeys.MISSED;
      }
      if (w.queue.isEmpty()) {
        return WatchedKeys.NONE;
      }
      w.last = w.queue.remove(0);
      w.took++;
      return w.last.revision;
    }

    public int taken(int watch, int what) {
      Watch w = watchOf(watch);
      illegalUnless(what >= 0 && what <= 5);
      return w.last == null ? WatchedKeys.NO_VALUE : w.last.number(what);
    }

    public int admit(int watch) {
      Watch w = watchOf(watch);
      int missed = w.missed;
      w.missed = 0;
      return missed;
    }

    public int rewatch(int watch, int start) {
      Watch w = watchOf(watch);
      illegalUnless(start >= 0);
      if (start > s.revision + 1) {
        return WatchedKeys.FUTURE;
      }
      w.missed = 0;
      fillQueue(w, start);
      return w.queue.size();
    }

    public int unwatch(int watch) {
      s.watches.remove(watchOf(watch));
      return s.watches.size();
    }

    public int safe() {
      int safe = s.revision;
      while (safe > s.compacted && missing(safe) > 0) {
        safe--;
      }
      return safe;
    }

    public int missing(int revision) {
      illegalUnless(revision >= 0);
      return (int) s.watches.stream()
          .filter(w -> w.queue.stream().anyMatch(e -> e.revision <= revision)).count();
    }

    public int slowest() {
      int most = s.watches.stream().mapToInt(w -> w.queue.size()).max().orElse(0);
      for (int i = 0; i < s.watches.size(); i++) {
        if (most > 0 && s.watches.get(i).queue.size() == most) {
          return i;
        }
      }
      return WatchedKeys.NONE;
    }

    public int behind(int watch) {
      Watch w = watchOf(watch);
      return w.queue.isEmpty() ? 0 : s.revision - w.queue.get(0).revision + 1;
    }

    public float meanLag() {
      int sum = s.watches.stream().mapToInt(w -> w.queue.size()).sum();
      return s.watches.isEmpty() ? 0.0f : (float) sum / (float) s.watches.size();
    }

    public int grant(int ttl) {
      illegalUnless(ttl >= 1 && ttl <= 1000);
      if (s.leases.size() == 8) {
        return WatchedKeys.FULL;
      }
      s.granted++;
      s.leases.put(s.granted, new int[] {ttl, ttl});
      return s.granted;
    }

    private List<Integer> keysWith(int lease) {
      List<Integer> keys = new ArrayList<>(s.keys.keySet());
      keys.removeIf(k -> s.keys.get(k).lease != lease);
      return keys;
    }

    public int lease(int lease, int what) {
      illegalUnless(what >= 0 && what <= 2);
      if (!s.leases.containsKey(lease)) {
        return WatchedKeys.NO_LEASE;
      }
      return what == 2 ? keysWith(lease).size() : s.leases.get(lease)[what];
    }

    public int keepAlive(int lease) {
      if (!s.leases.containsKey(lease)) {
        return WatchedKeys.NO_LEASE;
      }
      s.leases.get(lease)[1] = s.leases.get(lease)[0];
      return s.leases.get(lease)[0];
    }

    public int revoke(int lease) {
      if (!s.leases.containsKey(lease)) {
        return WatchedKeys.NO_LEASE;
      }
      List<Integer> keys = keysWith(lease);
      s.leases.remove(lease);
      change(deletions(keys), Map.of());
      return keys.size();
    }

    public int tick(int ticks) {
      illegalUnless(ticks >= 1 && ticks <= 1000);
      for (int i = 0; i < ticks; i++) {
        s.time++;
        s.leases.values().forEach(l -> l[1]--);
        for (int lease : new ArrayList<>(s.leases.keySet())) {
          if (s.leases.get(lease)[1] == 0) {
            revoke(lease);
          }
        }
      }
      return s.time;
    }

    public int expiry(int what) {
      illegalUnless(what == 0 || what == 1);
      for (int left = 1; left <= 1000; left++) {
        for (int lease : s.leases.keySet()) {
          if (s.leases.get(lease)[1] == left) {
            return what == 0 ? lease : left;
          }
        }
      }
      return WatchedKeys.NONE;
    }

    public int keysIn(int ticks) {
      illegalUnless(ticks >= 1 && ticks <= 1000);
      State kept = s.copy();
      tick(ticks);
      int keys = s.keys.size();
      s = kept;
      return keys;
    }

    public int when(int key, int what, int relation, int number) {
      key(key);
      illegalUnless(what >= 0 && what <= 3 && relation >= 0 && relation <= 3);
      if (s.conditions.size() == 6) {
        return WatchedKeys.FULL;
      }
      s.conditions.add(new Condition(key, what, relation, number));
      return s.conditions.size();
    }

    private int step(List<Step> steps, int kind, int key, int value) {
      illegalUnless(kind == 0 || kind == 1);
      key(key);
      illegalUnless(kind == 1 || Math.abs((long) value) <= 1000000);
      if (steps.size() == 6) {
        return WatchedKeys.FULL;
      }
      if (steps.stream().anyMatch(t -> t.key == key)) {
        return WatchedKeys.TWICE;
      }
      steps.add(new Step(kind, key, value));
      return steps.size();
    }

    public int then(int kind, int key, int value) {
      return step(s.thenSteps, kind, key, value);
    }

    public int otherwise(int kind, int key, int value) {
      return step(s.elseSteps, kind, key, value);
    }

    private boolean isTrue(Condition c) {
      Key key = s.keys.get(c.key);
      if (key == null && c.what == 0) {
        return false;
      }
      int sign = Integer.compare(key == null ? 0 : key.number(c.what), c.number);
      return new boolean[] {sign == 0, sign != 0, sign < 0, sign > 0}[c.relation];
    }

    public int holds() {
      for (int i = 0; i < s.conditions.size(); i++) {
        if (!isTrue(s.conditions.get(i))) {
          return i;
        }
      }
      return WatchedKeys.NONE;
    }

    private List<Step> chosen() {
      return holds() < 0 ? s.thenSteps : s.elseSteps;
    }

    public int wouldWrite() {
      return (int) chosen().stream()
          .filter(t -> t.kind == 0 || s.keys.containsKey(t.key)).count();
    }

    public int commit() {
      Set<Integer> behind = new TreeSet<>(s.keys.keySet());
      for (Step step : chosen()) {
        if (step.kind == 0) {
          behind.add(step.key);
        } else {
          behind.remove(step.key);
        }
      }
      if (behind.size() > 16) {
        return WatchedKeys.FULL;
      }
      int answer = holds() < 0 ? 1 : 0;
      change(new ArrayList<>(chosen()), Map.of());
      drop();
      return answer;
    }

    public int drop() {
      int had = s.conditions.size() + s.thenSteps.size() + s.elseSteps.size();
      s.conditions.clear();
      s.thenSteps.clear();
      s.elseSteps.clear();
      return had;
    }

    public int writeKey(int key) {
      key(key);
      Key k = s.keys.get(key);
      output = k == null ? "" : key + ":" + k.value + " v" + k.version
          + (k.lease == 0 ? "" : " l" + k.lease);
      return output.length();
    }

    public int outputByte(int index) {
      return index < 0 || index >= output.length() ? WatchedKeys.NONE : output.charAt(index);
    }

    public int saveSnapshot(int slot) {
      illegalUnless(slot == 0 || slot == 1);
      slots[slot] = s.copy();
      return s.revision;
    }

    public int restoreSnapshot(int slot) {
      illegalUnless(slot == 0 || slot == 1);
      if (slots[slot] == null) {
        return WatchedKeys.NONE;
      }
      s = slots[slot].copy();
      return s.revision;
    }
  }

  /** The same numbers in each run of the tests: a linear congruential row. */
  private static final class Numbers {
    private long state;

    Numbers(long seed) {
      state = seed * 2862933555777941757L + 3037000493L;
      below(2);
    }

    int below(int bound) {
      state = state * 6364136223846793005L + 1442695040888963407L;
      return (int) ((state >>> 33) % bound);
    }

    int between(int least, int most) {
      return least + below(most - least + 1);
    }

    int of(int... numbers) {
      return numbers[below(numbers.length)];
    }
  }

  /** One run: both objects, and what was called so far. */
  private static final class Run {
    private final Numbers numbers;
    private final Model model = new Model();
    private final WatchedKeys real = new WatchedKeys();
    private final List<String> told = new ArrayList<>();
    private final int spread;
    private final int shyness;
    private final int scripts;
    private boolean right = true;

    Run(int seed) {
      numbers = new Numbers(seed);
      spread = numbers.of(3, 12, 18, 24);
      shyness = numbers.of(1, 4, 20, 60);
      scripts = numbers.of(20, 100, 1000);
    }

    boolean go() {
      while (told.size() < CALLS && right) {
        if (numbers.below(scripts) == 0) {
          script();
        } else if (numbers.below(2) == 0) {
          one(BUILDERS.get(numbers.below(BUILDERS.size())));
        } else {
          one(METHODS.get(numbers.below(METHODS.size())).getName());
        }
      }
      return right;
    }

    private void script() {
      String text = new ScriptMaker(numbers).text();
      for (int i = 0; i < text.length(); i += 8) {
        long bytes = 0;
        for (int j = i; j < Math.min(i + 8, text.length()); j++) {
          bytes = bytes << 8 | text.charAt(j);
        }
        call(method("append"), bytes);
      }
      call(method("load"));
      call(method("loadError"));
      call(method("loadStatement"));
      call(method("digest"), 0);
      call(method("count"), numbers.below(7));
    }

    private void one(String wanted) {
      String name = wanted;
      // Calls that end much are made less often in some runs, so that states grow large.
      if (ENDERS.contains(name) && numbers.below(shyness) != 0) {
        name = numbers.below(2) == 0 ? "put" : "take";
      }
      call(method(name), arguments(name));
    }

    private Object[] arguments(String name) {
      return switch (name) {
        case "append" -> new Object[] {numbers.of(0, 32, 59) == 0 ? 0L : 32L};
        case "count" -> new Object[] {what(9)};
        case "get" -> new Object[] {key(), what(4)};
        case "getAt" -> new Object[] {key(), revision()};
        case "keysAt", "sumAt" -> three(from(), to(), revision());
        case "keyAt" -> new Object[] {from(), to(), what(17), revision()};
        case "changed" -> new Object[] {revision(), revision()};
        case "digest", "missing", "compact", "revert" -> new Object[] {revision()};
        case "versionAt" -> new Object[] {key(), what(5)};
        case "event" -> new Object[] {what(model.s.events.size()), what(5)};
        case "writes", "writeKey" -> new Object[] {key()};
        case "leader", "delete" -> new Object[] {from(), to()};
        case "ahead", "place" -> three(key(), from(), to());
        case "put" -> three(key(), value(), lease());
        case "attach" -> new Object[] {key(), lease()};
        case "watch" -> new Object[] {from(), to(), revision(), what(2)};
        case "watchValue" -> new Object[] {watch(), what(6)};
        case "taken" -> new Object[] {watch(), what(5)};
        case "take", "admit", "unwatch", "behind" -> new Object[] {watch()};
        case "rewatch" -> new Object[] {watch(), revision()};
        case "grant", "tick", "keysIn" -> new Object[] {ticks()};
        case "lease" -> new Object[] {lease(), what(2)};
        case "keepAlive", "revoke" -> new Object[] {lease()};
        case "expiry" -> new Object[] {what(1)};
        case "when" -> new Object[] {key(), what(3), what(3), numbers.of(value(), revision())};
        case "then", "otherwise" -> three(what(1), key(), value());
        case "outputByte" -> new Object[] {what(20)};
        case "saveSnapshot", "restoreSnapshot" -> new Object[] {what(1)};
        default -> new Object[0];
      };
    }

    private static Object[] three(int one, int two, int three) {
      return new Object[] {one, two, three};
    }

    private int wild() {
      return numbers.of(-1, 1000, 1001, Integer.MIN_VALUE, Integer.MAX_VALUE, -1000001, 1000001, 0);
    }

    private boolean isWild() {
      return numbers.below(60) == 0;
    }

    private int what(int most) {
      return isWild() ? wild() : numbers.below(40) == 0 ? numbers.of(-1, most + 1)
          : numbers.below(most + 1);
    }

    private int watch() {
      return what(Math.max(0, model.s.watches.size() - 1));
    }

    private int key() {
      return isWild() ? wild() : numbers.below(20) == 0 ? numbers.of(0, 999)
          : numbers.between(1, spread);
    }

    private int from() {
      return isWild() ? wild() : numbers.below(3) == 0 ? 0 : key();
    }

    private int to() {
      return isWild() ? wild() : numbers.below(2) == 0 ? 999 : Math.min(999, key() + 4);
    }

    private int value() {
      return isWild() ? wild() : numbers.below(12) == 0 ? numbers.of(-1000000, 1000000)
          : numbers.between(-3, 3);
    }

    private int revision() {
      int present = model.s.revision;
      int compacted = model.s.compacted;
      return isWild() ? wild() : numbers.of(0, compacted, compacted - 1, compacted + 1, present,
          present - 1, present + 1, present + 2, numbers.between(compacted, present),
          numbers.between(compacted, present), 1);
    }

    private int lease() {
      return isWild() ? wild()
          : numbers.of(0, 0, numbers.between(Math.max(0, model.s.granted - 8), model.s.granted + 1));
    }

    private int ticks() {
      return isWild() ? wild() : numbers.of(1, 1, 2, 3, 7, 20, numbers.of(500, 1000));
    }

    private void call(Method method, Object... arguments) {
      String due = answer(model, method, arguments);
      String got = answer(real, realMethod(method), arguments);
      String list = Arrays.toString(arguments);
      told.add(method.getName() + "(" + list.substring(1, list.length() - 1) + ") = " + got);
      if (!due.equals(got)) {
        right = false;
        told.add("due was " + due);
      }
    }
  }

  /** Scripts that are right, or nearly so. */
  private static final class ScriptMaker {
    private final Numbers numbers;

    ScriptMaker(Numbers numbers) {
      this.numbers = numbers;
    }

    String text() {
      StringBuilder text = new StringBuilder();
      int most = numbers.of(1, 4, 10, 60);
      String next = statement();
      for (int i = 0; i < most && text.length() + next.length() < 490; i++) {
        text.append(i == 0 ? "" : numbers.below(6) == 0 ? " ; " : ";").append(next);
        next = statement();
      }
      if (numbers.below(3) == 0) {
        spoil(text);
      }
      return text.toString();
    }

    private String statement() {
      String text = switch (numbers.below(48)) {
        case 0, 1, 2 -> "del " + key();
        case 3 -> "del " + key() + " " + numbers.of(999, 12, 5);
        case 4, 5, 6 -> "grant " + ticks();
        case 7 -> "keep " + numbers.below(3);
        case 8 -> "revoke " + numbers.between(1, 3);
        case 9, 10 -> "watch " + key() + " " + numbers.of(999, 999, 8);
        case 11, 12, 13 -> "watch 0 999 " + numbers.of(0, 1, 2, 3, 7);
        case 14 -> "compact " + numbers.between(1, 5);
        case 15, 16 -> "revert " + numbers.between(1, 4);
        case 17, 18, 19 -> "tick " + ticks();
        case 20, 21 -> "attach " + key() + " " + numbers.of(0, 0, 1);
        case 22, 23 -> "put " + key() + " " + numbers.between(0, 9) + " " + numbers.of(0, 1, 2);
        default -> "put " + key() + " " + numbers.between(0, 9);
      };
      if (text.startsWith("put") && numbers.below(5) == 0) {
        text = text.replaceFirst(" ([0-9]+)", "$0-").replace("- ", "-");
      }
      return numbers.below(5) == 0 ? text.replaceFirst(" ", "") : text;
    }

    private int key() {
      return numbers.below(30) == 0 ? numbers.of(0, 999, 1000) : numbers.between(1, 18);
    }

    private int ticks() {
      return numbers.below(12) == 0 ? numbers.of(0, 1000, 1001) : numbers.between(1, 9);
    }

    private void spoil(StringBuilder text) {
      String signs = " ;-0123456789abcdefgiklmnoprtuvw,A`{/:" + (char) 200 + (char) 9;
      int times = numbers.of(1, 1, 2, 5);
      for (int i = 0; i < times; i++) {
        int at = numbers.below(text.length() + 1);
        char sign = signs.charAt(numbers.below(signs.length()));
        switch (numbers.below(4)) {
          case 0 -> text.insert(at, sign);
          case 1 -> text.delete(at, Math.min(text.length(), at + 1));
          case 2 -> text.replace(at, Math.min(text.length(), at + 1), String.valueOf(sign));
          default -> text.setLength(at);
        }
      }
    }
  }

  private static final List<String> BUILDERS = List.of("put", "put", "put", "put", "put", "delete",
      "watch", "grant", "attach", "when", "then", "otherwise", "commit", "revert", "take",
      "watchValue", "taken", "event");
  private static final Set<String> ENDERS = Set.of("delete", "compact", "revert", "revoke", "tick",
      "unwatch", "load", "restoreSnapshot", "drop", "rewatch", "admit", "commit");
  private static final List<Method> METHODS = new ArrayList<>();

  private static Method method(String name) {
    for (Method method : METHODS) {
      if (method.getName().equals(name)) {
        return method;
      }
    }
    throw new NoSuchElementException(name);
  }

  private static Method realMethod(Method method) {
    try {
      return WatchedKeys.class.getMethod(method.getName(), method.getParameterTypes());
    } catch (NoSuchMethodException e) {
      throw new IllegalStateException(e);
    }
  }

  private static String answer(Object object, Method method, Object... arguments) {
    try {
      return String.valueOf(method.invoke(object, arguments));
    } catch (InvocationTargetException e) {
      return Bench.nameOf(e.getCause());
    } catch (IllegalAccessException e) {
      throw new IllegalStateException(e);
    }
  }

  private static void collectMethods() {
    for (Method method : Model.class.getDeclaredMethods()) {
      if (java.lang.reflect.Modifier.isPublic(method.getModifiers())) {
        METHODS.add(method);
      }
    }
    // The machine lists them in no fixed order.
    METHODS.sort((a, b) -> a.getName().compareTo(b.getName()));
  }

  public static void main(String[] args) {
    collectMethods();
    int wrong = 0;
    int first = args.length > 0 ? Integer.parseInt(args[0]) : 0;
    int last = args.length > 1 ? Integer.parseInt(args[1]) : first + RUNS;
    for (int seed = first; seed < last; seed++) {
      Run run = new Run(seed);
      if (!run.go()) {
        wrong++;
        System.out.println("run " + seed + ":");
        int from = Math.max(0, run.told.size() - 40);
        run.told.subList(from, run.told.size()).forEach(line -> System.out.println("  " + line));
      }
      if (wrong > 2) {
        break;
      }
    }
    System.out.println((last - first) + " runs of " + CALLS + " calls, " + wrong + " wrong");
    if (wrong > 0 || METHODS.size() != 55) {
      System.exit(1);
    }
  }
}
