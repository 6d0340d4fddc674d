import java.util.Arrays;

/**
 * A store of keys with revisions, watches, leases and small transactions.
 * What each method promises stands in ../shared/DOC.md.
 */
public final class WatchedKeys {
  public static final int NONE = -1;
  public static final int FULL = -2;
  public static final int NO_LEASE = -3;
  public static final int TWICE = -4;
  public static final int MISSED = -5;
  public static final int COMPACTED = -2000000001;
  public static final int FUTURE = -2000000002;
  public static final int NO_VALUE = -2000000000;

  private static final int LAST_KEY = 999;
  private static final int MOST_KEYS = 16;
  private static final int MOST_VALUE = 1000000;
  private static final int MOST_EVENTS = 120;
  private static final int MOST_WATCHES = 8;
  private static final int MOST_LEASES = 8;
  private static final int MOST_TICKS = 1000;
  private static final int MOST_PARTS = 6;
  private static final int MOST_BYTES = 500;
  private static final int MOST_COUNTER = 9999;
  private static final int SLOTS = 2;

  private static final int WRITTEN = 0;
  private static final int DELETED = 1;
  private static final int LAST_EVENT_NUMBER = 5;

  private static final int BAD_PLACE = 1;
  private static final int BAD_RANGE = 2;
  private static final int REFUSED = 3;

  private static final int NO_NUMBER = 0;
  private static final int KEY_NUMBER = 1;
  private static final int VALUE_NUMBER = 2;
  private static final int TICKS_NUMBER = 3;
  private static final int REVISION_NUMBER = 4;
  private static final int COUNTER_NUMBER = 5;
  private static final int TO_NUMBER = 6;

  private Store now = new Store();
  // A script runs here, so that an error in it leaves the present store alone.
  private Store spare = new Store();
  // A slot is null until something is saved there.
  private final Store[] snapshots = new Store[SLOTS];
  private final Script script = new Script();
  private final StringBuilder output = new StringBuilder();
  // Rows that calls use again and again, so that none makes its own.
  private final KeyRow past = new KeyRow();
  private final KeyRow otherPast = new KeyRow();
  private final int[] tally = new int[LAST_KEY + 1];

  public WatchedKeys() {
  }

  public int append(long bytes) {
    return script.addBytes(bytes);
  }

  public int load() {
    spare.clear();
    script.begin();
    boolean more = true;
    for (int n = 0; more && n <= MOST_BYTES; n++) {
      Verb verb = script.readStatement();
      if (verb != null) {
        script.judge(verb, perform(verb, spare));
      }
      more = script.passSemicolon();
    }
    if (script.error == 0) {
      Store old = now;
      now = spare;
      spare = old;
    }
    return script.finish();
  }

  public int loadError() {
    return script.error;
  }

  public int loadStatement() {
    return script.error == 0 ? NONE : script.statement;
  }

  public int count(int what) throws IllegalArgumentException {
    need(what >= 0 && what <= 9);
    switch (what) {
      case 0: return now.revision;
      case 1: return now.compacted;
      case 2: return now.keys.count;
      case 3: return now.leaseCount;
      case 4: return now.watchCount;
      case 5: return now.events.count;
      case 6: return now.time;
      case 7: return now.transaction.count;
      case 8: return now.transaction.thenSteps.count;
      default: return now.transaction.elseSteps.count;
    }
  }

  public int get(int key, int what) throws IllegalArgumentException {
    needKey(key);
    need(what >= 0 && what <= 4);
    Key found = now.keys.find(key);
    return found == null ? NO_VALUE : found.number(what);
  }

  public int getAt(int key, int revision) throws IllegalArgumentException {
    needKey(key);
    need(revision >= 0);
    int refusal = now.recall(revision, past);
    if (refusal != 0) {
      return refusal;
    }
    Key found = past.find(key);
    return found == null ? NO_VALUE : found.value;
  }

  public int keysAt(int from, int to, int revision) throws IllegalArgumentException {
    needRange(from, to);
    need(revision >= 0);
    int refusal = now.recall(revision, past);
    if (refusal != 0) {
      return refusal;
    }
    return past.firstFrom(to + 1) - past.firstFrom(from);
  }

  public int keyAt(int from, int to, int index, int revision) throws IllegalArgumentException {
    needRange(from, to);
    need(revision >= 0);
    int refusal = now.recall(revision, past);
    if (refusal != 0) {
      return refusal;
    }
    if (index < 0 || index >= past.count) {
      return NONE;
    }
    Key found = past.at(past.firstFrom(from) + index);
    return found != null && found.key <= to ? found.key : NONE;
  }

  public long sumAt(int from, int to, int revision) throws IllegalArgumentException {
    needRange(from, to);
    need(revision >= 0);
    int refusal = now.recall(revision, past);
    if (refusal != 0) {
      return refusal;
    }
    long sum = 0;
    for (int i = 0; i < past.count; i++) {
      Key found = past.at(i);
      if (found != null && found.isIn(from, to)) {
        sum += found.value;
      }
    }
    return sum;
  }

  public int changed(int one, int other) throws IllegalArgumentException {
    need(one >= 0 && other >= 0);
    int refusal = now.recall(one, past);
    if (refusal == 0) {
      refusal = now.recall(other, otherPast);
    }
    return refusal == 0 ? past.differences(otherPast) : refusal;
  }

  public int digest(int revision) throws IllegalArgumentException {
    need(revision >= 0);
    if (now.recall(revision, past) != 0) {
      return 0;
    }
    int number = 17;
    for (int i = 0; i < past.count; i++) {
      Key found = past.at(i);
      if (found != null) {
        number = 31 * number + found.key;
        number = 31 * number + found.value;
      }
    }
    return number;
  }

  public int versionAt(int key, int version) throws IllegalArgumentException {
    needKey(key);
    need(version >= 1);
    Key found = now.keys.find(key);
    if (found == null) {
      return NO_VALUE;
    }
    for (int i = 0; i < now.events.count; i++) {
      Event event = now.events.at(i);
      if (event != null && event.wrote(found, version)) {
        return event.value;
      }
    }
    return NO_VALUE;
  }

  public int event(int index, int what)
      throws IndexOutOfBoundsException, IllegalArgumentException {
    Event found = now.events.at(index);
    if (found == null) {
      throw new IndexOutOfBoundsException();
    }
    need(what >= 0 && what <= LAST_EVENT_NUMBER);
    return found.number(what);
  }

  public int writes(int key) throws IllegalArgumentException {
    needKey(key);
    int writes = 0;
    for (int i = 0; i < now.events.count; i++) {
      Event event = now.events.at(i);
      if (event != null && event.key == key) {
        writes++;
      }
    }
    return writes;
  }

  public int busiest() {
    Arrays.fill(tally, 0);
    for (int i = 0; i < now.events.count; i++) {
      Event event = now.events.at(i);
      if (event != null && event.key >= 0 && event.key < tally.length) {
        tally[event.key]++;
      }
    }
    int best = NONE;
    int most = 0;
    for (int key = 0; key < tally.length; key++) {
      if (tally[key] > most) {
        best = key;
        most = tally[key];
      }
    }
    return best;
  }

  public double deletedPart() {
    int events = now.events.count;
    if (events == 0) {
      return 0.0;
    }
    int deleted = 0;
    for (int i = 0; i < events; i++) {
      Event event = now.events.at(i);
      if (event != null && event.kind == DELETED) {
        deleted++;
      }
    }
    return (double) deleted / (double) events;
  }

  public int leader(int from, int to) throws IllegalArgumentException {
    needRange(from, to);
    Key first = null;
    for (int i = 0; i < now.keys.count; i++) {
      Key key = now.keys.at(i);
      if (key != null && key.isIn(from, to) && (first == null || key.cameBefore(first))) {
        first = key;
      }
    }
    return first == null ? NONE : first.key;
  }

  public int ahead(int key, int from, int to) throws IllegalArgumentException {
    needKey(key);
    needRange(from, to);
    Key own = now.keys.find(key);
    if (own == null || !own.isIn(from, to)) {
      return NONE;
    }
    Key last = null;
    for (int i = 0; i < now.keys.count; i++) {
      Key other = now.keys.at(i);
      if (other != null && other.isIn(from, to) && other.cameBefore(own)
          && (last == null || last.cameBefore(other))) {
        last = other;
      }
    }
    return last == null ? NONE : last.key;
  }

  public int place(int key, int from, int to) throws IllegalArgumentException {
    needKey(key);
    needRange(from, to);
    Key own = now.keys.find(key);
    if (own == null || !own.isIn(from, to)) {
      return NONE;
    }
    int before = 0;
    for (int i = 0; i < now.keys.count; i++) {
      Key other = now.keys.at(i);
      if (other != null && other.isIn(from, to) && other.cameBefore(own)) {
        before++;
      }
    }
    return before;
  }

  public int put(int key, int value, int lease) throws IllegalArgumentException {
    needKey(key);
    need(isValue(value));
    need(lease >= 0);
    return now.putKey(key, value, lease);
  }

  public int delete(int from, int to) throws IllegalArgumentException {
    needRange(from, to);
    return now.deleteRange(from, to);
  }

  public int compact(int revision) throws IllegalArgumentException {
    need(revision >= 1);
    return now.compactFor(revision);
  }

  public int revert(int revision) throws IllegalArgumentException {
    need(revision >= 1);
    return now.revertTo(revision, past);
  }

  public int attach(int key, int lease) throws IllegalArgumentException {
    needKey(key);
    need(lease >= 0);
    return now.attachKey(key, lease);
  }

  public int watch(int from, int to, int start, int kinds) throws IllegalArgumentException {
    needRange(from, to);
    need(start >= 0);
    need(kinds >= 0 && kinds <= 2);
    return now.addWatch(from, to, start, kinds);
  }

  public int watchValue(int watch, int what)
      throws IndexOutOfBoundsException, IllegalArgumentException {
    Watch found = needWatch(watch);
    need(what >= 0 && what <= 6);
    return found.number(what, now.events);
  }

  public int take(int watch) throws IndexOutOfBoundsException {
    return needWatch(watch).takeFirst(now.events);
  }

  public int taken(int watch, int what)
      throws IndexOutOfBoundsException, IllegalArgumentException {
    Watch found = needWatch(watch);
    need(what >= 0 && what <= LAST_EVENT_NUMBER);
    return found.took == 0 ? NO_VALUE : found.last.number(what);
  }

  public int admit(int watch) throws IndexOutOfBoundsException {
    return needWatch(watch).tellMissed();
  }

  public int rewatch(int watch, int start)
      throws IndexOutOfBoundsException, IllegalArgumentException {
    Watch found = needWatch(watch);
    need(start >= 0);
    if (now.startsTooLate(start)) {
      return FUTURE;
    }
    found.beginAt(now.firstEventFor(start));
    return found.waiting(now.events);
  }

  public int unwatch(int watch) throws IndexOutOfBoundsException {
    needWatch(watch);
    now.removeWatch(watch);
    return now.watchCount;
  }

  public int safe() {
    int earliest = now.revision + 1;
    for (int i = 0; i < now.watchCount; i++) {
      Watch watch = now.watchAt(i);
      int waits = watch == null ? NONE : watch.earliest(now.events);
      if (waits != NONE) {
        earliest = Math.min(earliest, waits);
      }
    }
    return earliest - 1;
  }

  public int missing(int revision) throws IllegalArgumentException {
    need(revision >= 0);
    int missing = 0;
    for (int i = 0; i < now.watchCount; i++) {
      Watch watch = now.watchAt(i);
      int waits = watch == null ? NONE : watch.earliest(now.events);
      if (waits != NONE && waits <= revision) {
        missing++;
      }
    }
    return missing;
  }

  public int slowest() {
    int slowest = NONE;
    int most = 0;
    for (int i = 0; i < now.watchCount; i++) {
      Watch watch = now.watchAt(i);
      int waiting = watch == null ? 0 : watch.waiting(now.events);
      if (waiting > most) {
        slowest = i;
        most = waiting;
      }
    }
    return slowest;
  }

  public int behind(int watch) throws IndexOutOfBoundsException {
    int earliest = needWatch(watch).earliest(now.events);
    return earliest == NONE ? 0 : now.revision - earliest + 1;
  }

  public float meanLag() {
    int watches = now.watchCount;
    if (watches == 0) {
      return 0.0f;
    }
    int sum = 0;
    for (int i = 0; i < watches; i++) {
      Watch watch = now.watchAt(i);
      sum += watch == null ? 0 : watch.waiting(now.events);
    }
    return (float) sum / (float) watches;
  }

  public int grant(int ttl) throws IllegalArgumentException {
    need(isTicks(ttl));
    return now.addLease(ttl);
  }

  public int lease(int lease, int what) throws IllegalArgumentException {
    need(what >= 0 && what <= 2);
    Lease found = now.leaseAt(now.findLease(lease));
    if (found == null) {
      return NO_LEASE;
    }
    switch (what) {
      case 0: return found.ttl;
      case 1: return found.left;
      default: return now.keys.countWith(lease);
    }
  }

  public int keepAlive(int lease) {
    return now.renew(lease);
  }

  public int revoke(int lease) {
    return now.endLease(lease);
  }

  public int tick(int ticks) throws IllegalArgumentException {
    need(isTicks(ticks));
    return now.letPass(ticks);
  }

  public int expiry(int what) throws IllegalArgumentException {
    need(what == 0 || what == 1);
    Lease first = now.leaseAt(now.firstToEnd());
    if (first == null) {
      return NONE;
    }
    return what == 0 ? first.number : first.left;
  }

  public int keysIn(int ticks) throws IllegalArgumentException {
    need(isTicks(ticks));
    int kept = now.keys.count;
    for (int i = 0; i < now.leaseCount; i++) {
      Lease lease = now.leaseAt(i);
      if (lease != null && lease.left <= ticks) {
        kept -= now.keys.countWith(lease.number);
      }
    }
    return kept;
  }

  public int when(int key, int what, int relation, int number) throws IllegalArgumentException {
    needKey(key);
    need(what >= 0 && what <= 3);
    need(relation >= 0 && relation <= 3);
    return now.transaction.addCondition(key, what, relation, number);
  }

  public int then(int kind, int key, int value) throws IllegalArgumentException {
    needStep(kind, key, value);
    return now.transaction.thenSteps.add(kind, key, value);
  }

  public int otherwise(int kind, int key, int value) throws IllegalArgumentException {
    needStep(kind, key, value);
    return now.transaction.elseSteps.add(kind, key, value);
  }

  public int holds() {
    return now.transaction.firstFailing(now.keys);
  }

  public int wouldWrite() {
    return now.transaction.stepsFor(now.keys).eventsOn(now.keys);
  }

  public int commit() {
    return now.doTransaction();
  }

  public int drop() {
    return now.transaction.clear();
  }

  public int writeKey(int key) throws IllegalArgumentException {
    needKey(key);
    output.setLength(0);
    Key found = now.keys.find(key);
    if (found == null) {
      return 0;
    }
    output.append(found.key).append(':').append(found.value);
    output.append(" v").append(found.version);
    if (found.lease != 0) {
      output.append(" l").append(found.lease);
    }
    return output.length();
  }

  public int outputByte(int index) {
    return index >= 0 && index < output.length() ? output.charAt(index) : NONE;
  }

  public int saveSnapshot(int slot) throws IllegalArgumentException {
    if (slot < 0 || slot >= snapshots.length) {
      throw new IllegalArgumentException();
    }
    Store snapshot = snapshots[slot];
    if (snapshot == null) {
      snapshot = new Store();
      snapshots[slot] = snapshot;
    }
    snapshot.copyFrom(now);
    return now.revision;
  }

  public int restoreSnapshot(int slot) throws IllegalArgumentException {
    if (slot < 0 || slot >= snapshots.length) {
      throw new IllegalArgumentException();
    }
    Store snapshot = snapshots[slot];
    if (snapshot == null) {
      return NONE;
    }
    now.copyFrom(snapshot);
    return now.revision;
  }

  private static void need(boolean inRange) throws IllegalArgumentException {
    if (!inRange) {
      throw new IllegalArgumentException();
    }
  }

  private static void needKey(int key) throws IllegalArgumentException {
    need(key >= 0 && key <= LAST_KEY);
  }

  private static void needRange(int from, int to) throws IllegalArgumentException {
    need(to >= 0 && to <= LAST_KEY && from >= 0 && from <= to);
  }

  private static void needStep(int kind, int key, int value) throws IllegalArgumentException {
    need(kind == WRITTEN || kind == DELETED);
    needKey(key);
    need(kind == DELETED || isValue(value));
  }

  private static boolean isValue(int value) {
    return value >= -MOST_VALUE && value <= MOST_VALUE;
  }

  private static boolean isTicks(int ticks) {
    return ticks >= 1 && ticks <= MOST_TICKS;
  }

  private Watch needWatch(int watch) throws IndexOutOfBoundsException {
    Watch found = now.watchAt(watch);
    if (found == null) {
      throw new IndexOutOfBoundsException();
    }
    return found;
  }

  private int perform(Verb verb, Store store) {
    int one = script.numberAt(0);
    int two = script.numberAt(1);
    int three = script.numberAt(2);
    switch (verb) {
      case PUT: return store.putKey(one, two, three);
      case DELETE: return store.deleteRange(one, script.read > 1 ? two : one);
      case GRANT: return store.addLease(one);
      case KEEP: return store.renew(one);
      case REVOKE: return store.endLease(one);
      case WATCH: return store.addWatch(one, two, three, 0);
      case COMPACT: return store.compactFor(one);
      case REVERT: return store.revertTo(one, past);
      case TICK: return store.letPass(one);
      default: return store.attachKey(one, two);
    }
  }

  private static final class Key {
    private int key;
    private int value;
    private int created;
    private int written;
    private int version;
    private int lease;

    boolean isIn(int from, int to) {
      return key >= from && key <= to;
    }

    boolean cameBefore(Key other) {
      return created < other.created || created == other.created && key < other.key;
    }

    int number(int what) {
      switch (what) {
        case 0: return value;
        case 1: return created;
        case 2: return written;
        case 3: return version;
        default: return lease;
      }
    }

    void copyFrom(Key other) {
      key = other.key;
      value = other.value;
      created = other.created;
      written = other.written;
      version = other.version;
      lease = other.lease;
    }
  }

  /** Keys in rising order. */
  private static final class KeyRow {
    // Between the steps of a transaction there can be more keys than behind them.
    private static final int ROOM = MOST_KEYS + MOST_PARTS;

    private final Key[] row = new Key[ROOM];
    private int count;

    KeyRow() {
      for (int i = 0; i < ROOM; i++) {
        row[i] = new Key();
      }
    }

    Key at(int index) {
      return index >= 0 && index < count && index < ROOM ? row[index] : null;
    }

    /** The index of the first key that is not less than the one that is named. */
    int firstFrom(int key) {
      for (int i = 0; i < count; i++) {
        Key found = at(i);
        if (found != null && found.key >= key) {
          return i;
        }
      }
      return count;
    }

    /** The index of a key; NONE if it is not there. */
    int indexOf(int key) {
      for (int i = 0; i < count; i++) {
        Key found = at(i);
        if (found != null && found.key == key) {
          return i;
        }
      }
      return NONE;
    }

    Key find(int key) {
      for (int i = 0; i < count; i++) {
        Key found = at(i);
        if (found != null && found.key == key) {
          return found;
        }
      }
      return null;
    }

    int countWith(int lease) {
      int with = 0;
      for (int i = 0; i < count; i++) {
        Key found = at(i);
        if (found != null && found.lease == lease) {
          with++;
        }
      }
      return with;
    }

    /** Makes room for a key that is not there; null if there is none. */
    Key insert(int key) {
      if (count < 0 || count >= ROOM) {
        return null;
      }
      Key fresh = row[count];
      if (fresh == null) {
        return null;
      }
      int index = count;
      for (; index > 0; index--) {
        Key other = row[index - 1];
        if (other != null && other.key < key) {
          break;
        }
        row[index] = other;
      }
      row[index] = fresh;
      count++;
      fresh.key = key;
      fresh.version = 0;
      return fresh;
    }

    void removeAt(int index) {
      Key gone = at(index);
      if (gone == null) {
        return;
      }
      int last = index;
      for (; last + 1 < count && last + 1 < ROOM; last++) {
        row[last] = row[last + 1];
      }
      // The object stays in the row, so that a later key can use it.
      row[last] = gone;
      count--;
    }

    /** How many keys are in one of the rows alone, or have unlike values in them. */
    int differences(KeyRow other) {
      int shared = 0;
      int alike = 0;
      for (int i = 0; i < count; i++) {
        Key own = at(i);
        Key twin = own == null ? null : other.find(own.key);
        if (own != null && twin != null) {
          shared++;
          alike += twin.value == own.value ? 1 : 0;
        }
      }
      return count + other.count - shared - alike;
    }

    void copyFrom(KeyRow other) {
      count = other.count;
      for (int i = 0; i < count; i++) {
        Key own = at(i);
        Key from = other.at(i);
        if (own != null && from != null) {
          own.copyFrom(from);
        }
      }
    }
  }

  private static final class Event {
    private int revision;
    private int kind;
    private int key;
    private int value;
    private int before;
    private int lease;
    private int version;

    boolean wrote(Key present, int asked) {
      return kind == WRITTEN && key == present.key && version == asked
          && revision >= present.created;
    }

    int number(int what) {
      switch (what) {
        case 0: return revision;
        case 1: return kind;
        case 2: return key;
        case 3: return value;
        case 4: return before;
        default: return lease;
      }
    }

    void copyFrom(Event other) {
      revision = other.revision;
      kind = other.kind;
      key = other.key;
      value = other.value;
      before = other.before;
      lease = other.lease;
      version = other.version;
    }
  }

  /** The events that are kept, the earliest one first. */
  private static final class EventRow {
    // The largest change deletes all keys and writes as many others.
    private static final int ROOM = MOST_EVENTS + 2 * MOST_KEYS;

    private final Event[] row = new Event[ROOM];
    private int count;

    EventRow() {
      for (int i = 0; i < ROOM; i++) {
        row[i] = new Event();
      }
    }

    Event at(int index) {
      return index >= 0 && index < count && index < ROOM ? row[index] : null;
    }

    /** An event behind the others, to be filled; null if there is no room. */
    Event add() {
      if (count < 0 || count >= ROOM) {
        return null;
      }
      count++;
      return row[count - 1];
    }

    /** How many events are of a revision or of earlier ones. */
    int countTo(int revision) {
      for (int i = 0; i < count; i++) {
        Event event = at(i);
        if (event != null && event.revision > revision) {
          return i;
        }
      }
      return count;
    }

    void dropFirst(int gone) {
      if (gone < 0 || gone > count) {
        return;
      }
      count -= gone;
      for (int i = 0; i < count && i + gone < ROOM; i++) {
        // Swapped, not copied: the objects of those that are gone are used again.
        Event old = row[i];
        row[i] = row[i + gone];
        row[i + gone] = old;
      }
    }

    void copyFrom(EventRow other) {
      count = other.count;
      for (int i = 0; i < count; i++) {
        Event own = at(i);
        Event from = other.at(i);
        if (own != null && from != null) {
          own.copyFrom(from);
        }
      }
    }
  }

  private static final class Watch {
    private int from;
    private int to;
    private int kinds;
    // The index, among the events that are kept, of the first one that it has not passed.
    private int next;
    private int took;
    private int missed;
    private final Event last = new Event();

    boolean sees(Event event) {
      return event.key >= from && event.key <= to && (kinds == 0 || kinds == event.kind + 1);
    }

    int waiting(EventRow events) {
      int waiting = 0;
      for (int i = next; i < events.count; i++) {
        Event event = events.at(i);
        if (event != null && sees(event)) {
          waiting++;
        }
      }
      return waiting;
    }

    /** The index of the earliest event that waits for it; NONE if none waits. */
    int firstWaiting(EventRow events) {
      for (int i = next; i < events.count; i++) {
        Event event = events.at(i);
        if (event != null && sees(event)) {
          return i;
        }
      }
      return NONE;
    }

    /** The revision of the earliest event that waits for it; NONE if none waits. */
    int earliest(EventRow events) {
      Event event = events.at(firstWaiting(events));
      return event == null ? NONE : event.revision;
    }

    int number(int what, EventRow events) {
      switch (what) {
        case 0: return from;
        case 1: return to;
        case 2: return kinds;
        case 3: return waiting(events);
        case 4: return took;
        case 5: return state(events);
        default: return missed;
      }
    }

    private int state(EventRow events) {
      if (missed > 0) {
        return 2;
      }
      return firstWaiting(events) == NONE ? 0 : 1;
    }

    int takeFirst(EventRow events) {
      if (missed > 0) {
        return MISSED;
      }
      int index = firstWaiting(events);
      Event event = events.at(index);
      if (event == null) {
        return NONE;
      }
      last.copyFrom(event);
      next = index + 1;
      took++;
      return event.revision;
    }

    int tellMissed() {
      int told = missed;
      missed = 0;
      return told;
    }

    void beginAt(int index) {
      next = index;
      missed = 0;
    }

    // Called while the events that go are still there, since those that wait are counted.
    void loseFirst(int gone, EventRow events) {
      for (int i = next; i < gone; i++) {
        Event event = events.at(i);
        if (event != null && sees(event)) {
          missed++;
        }
      }
      next = Math.max(0, next - gone);
    }

    void copyFrom(Watch other) {
      from = other.from;
      to = other.to;
      kinds = other.kinds;
      next = other.next;
      took = other.took;
      missed = other.missed;
      last.copyFrom(other.last);
    }
  }

  private static final class Lease {
    private int number;
    private int ttl;
    private int left;

    void copyFrom(Lease other) {
      number = other.number;
      ttl = other.ttl;
      left = other.left;
    }
  }

  /** The steps for THEN, or those for ELSE. */
  private static final class Steps {
    private final int[] kinds = new int[MOST_PARTS];
    private final int[] keys = new int[MOST_PARTS];
    private final int[] values = new int[MOST_PARTS];
    private int count;

    int add(int kind, int key, int value) {
      if (count < 0 || count >= MOST_PARTS) {
        return FULL;
      }
      for (int i = 0; i < count; i++) {
        if (keys[i] == key) {
          return TWICE;
        }
      }
      kinds[count] = kind;
      keys[count] = key;
      values[count] = value;
      count++;
      return count;
    }

    int eventsOn(KeyRow present) {
      int events = 0;
      for (int i = 0; i < count && i < MOST_PARTS; i++) {
        if (kinds[i] == WRITTEN || present.find(keys[i]) != null) {
          events++;
        }
      }
      return events;
    }

    /** How many keys more there would be behind the steps. */
    int growthOf(KeyRow present) {
      int growth = 0;
      for (int i = 0; i < count && i < MOST_PARTS; i++) {
        boolean there = present.find(keys[i]) != null;
        if (kinds[i] == WRITTEN && !there) {
          growth++;
        } else if (kinds[i] == DELETED && there) {
          growth--;
        }
      }
      return growth;
    }

    void copyFrom(Steps other) {
      count = other.count;
      System.arraycopy(other.kinds, 0, kinds, 0, MOST_PARTS);
      System.arraycopy(other.keys, 0, keys, 0, MOST_PARTS);
      System.arraycopy(other.values, 0, values, 0, MOST_PARTS);
    }
  }

  private static final class Transaction {
    private final int[] keys = new int[MOST_PARTS];
    private final int[] whats = new int[MOST_PARTS];
    private final int[] relations = new int[MOST_PARTS];
    private final int[] numbers = new int[MOST_PARTS];
    private int count;
    private final Steps thenSteps = new Steps();
    private final Steps elseSteps = new Steps();

    int addCondition(int key, int what, int relation, int number) {
      if (count < 0 || count >= MOST_PARTS) {
        return FULL;
      }
      keys[count] = key;
      whats[count] = what;
      relations[count] = relation;
      numbers[count] = number;
      count++;
      return count;
    }

    /** The index of the first condition that does not hold; NONE if all hold. */
    int firstFailing(KeyRow present) {
      for (int i = 0; i < count && i < MOST_PARTS; i++) {
        Key key = present.find(keys[i]);
        boolean comparable = key != null || whats[i] != 0;
        int number = key == null ? 0 : key.number(whats[i]);
        if (!comparable || !relates(number, relations[i], numbers[i])) {
          return i;
        }
      }
      return NONE;
    }

    private static boolean relates(int one, int relation, int other) {
      switch (relation) {
        case 0: return one == other;
        case 1: return one != other;
        case 2: return one < other;
        default: return one > other;
      }
    }

    Steps stepsFor(KeyRow present) {
      return firstFailing(present) == NONE ? thenSteps : elseSteps;
    }

    /** Empties it; answers how many conditions and steps it had. */
    int clear() {
      int had = count + thenSteps.count + elseSteps.count;
      count = 0;
      thenSteps.count = 0;
      elseSteps.count = 0;
      return had;
    }

    void copyFrom(Transaction other) {
      count = other.count;
      System.arraycopy(other.keys, 0, keys, 0, MOST_PARTS);
      System.arraycopy(other.whats, 0, whats, 0, MOST_PARTS);
      System.arraycopy(other.relations, 0, relations, 0, MOST_PARTS);
      System.arraycopy(other.numbers, 0, numbers, 0, MOST_PARTS);
      thenSteps.copyFrom(other.thenSteps);
      elseSteps.copyFrom(other.elseSteps);
    }
  }

  /** All that a snapshot copies and a script begins anew. */
  private static final class Store {
    private final KeyRow keys = new KeyRow();
    private final EventRow events = new EventRow();
    private final Watch[] watches = new Watch[MOST_WATCHES];
    // In the order of their numbers, as they were granted.
    private final Lease[] leases = new Lease[MOST_LEASES];
    private final Transaction transaction = new Transaction();
    private int revision = 1;
    private int compacted;
    private int time;
    private int watchCount;
    private int leaseCount;
    private int granted;

    Store() {
      for (int i = 0; i < MOST_WATCHES; i++) {
        watches[i] = new Watch();
      }
      for (int i = 0; i < MOST_LEASES; i++) {
        leases[i] = new Lease();
      }
    }

    void clear() {
      keys.count = 0;
      events.count = 0;
      transaction.clear();
      revision = 1;
      compacted = 0;
      time = 0;
      watchCount = 0;
      leaseCount = 0;
      granted = 0;
    }

    void copyFrom(Store other) {
      keys.copyFrom(other.keys);
      events.copyFrom(other.events);
      transaction.copyFrom(other.transaction);
      revision = other.revision;
      compacted = other.compacted;
      time = other.time;
      granted = other.granted;
      copyWatches(other);
      copyLeases(other);
    }

    private void copyWatches(Store other) {
      watchCount = other.watchCount;
      for (int i = 0; i < watchCount; i++) {
        Watch own = watchAt(i);
        Watch from = other.watchAt(i);
        if (own != null && from != null) {
          own.copyFrom(from);
        }
      }
    }

    private void copyLeases(Store other) {
      leaseCount = other.leaseCount;
      for (int i = 0; i < leaseCount; i++) {
        Lease own = leaseAt(i);
        Lease from = other.leaseAt(i);
        if (own != null && from != null) {
          own.copyFrom(from);
        }
      }
    }

    /** Fills a row with keys and values as they were; COMPACTED, FUTURE or, if it could, 0. */
    int recall(int asked, KeyRow past) {
      int goal = asked == 0 ? revision : asked;
      if (goal < compacted) {
        return COMPACTED;
      }
      if (goal > revision) {
        return FUTURE;
      }
      past.copyFrom(keys);
      for (int i = events.count - 1; i >= 0; i--) {
        Event event = events.at(i);
        if (event == null || event.revision <= goal) {
          break;
        }
        undo(event, past);
      }
      return 0;
    }

    private static void undo(Event event, KeyRow past) {
      if (event.before == NO_VALUE) {
        past.removeAt(past.indexOf(event.key));
        return;
      }
      Key key = past.find(event.key);
      if (key == null) {
        key = past.insert(event.key);
      }
      if (key != null) {
        key.value = event.before;
      }
    }

    // A change is a row of writes and deletions, and endChange() behind them.
    private void writeOne(int key, int value, int lease) {
      Key found = keys.find(key);
      int before = found == null ? NO_VALUE : found.value;
      if (found == null) {
        found = keys.insert(key);
        if (found == null) {
          return;
        }
        found.created = revision + 1;
      }
      found.value = value;
      found.lease = lease;
      found.written = revision + 1;
      found.version++;
      addEvent(WRITTEN, found, before);
    }

    private void deleteAt(int index) {
      Key gone = keys.at(index);
      if (gone != null) {
        addEvent(DELETED, gone, gone.value);
        keys.removeAt(index);
      }
    }

    private void addEvent(int kind, Key key, int before) {
      Event event = events.add();
      if (event != null) {
        event.revision = revision + 1;
        event.kind = kind;
        event.key = key.key;
        event.value = kind == WRITTEN ? key.value : 0;
        event.before = before;
        event.lease = key.lease;
        event.version = key.version;
      }
    }

    private void endChange() {
      // No revision passes for a change that made no event.
      Event last = events.at(events.count - 1);
      if (last == null || last.revision <= revision) {
        return;
      }
      revision++;
      for (int i = 0; i < EventRow.ROOM && events.count > MOST_EVENTS; i++) {
        Event earliest = events.at(0);
        if (earliest != null) {
          compactTo(earliest.revision);
        }
      }
    }

    private int compactTo(int goal) {
      int gone = events.countTo(goal);
      for (int i = 0; i < watchCount; i++) {
        Watch watch = watchAt(i);
        if (watch != null) {
          watch.loseFirst(gone, events);
        }
      }
      events.dropFirst(gone);
      compacted = goal;
      return gone;
    }

    int compactFor(int goal) {
      if (goal <= compacted) {
        return COMPACTED;
      }
      return goal > revision ? FUTURE : compactTo(goal);
    }

    int putKey(int key, int value, int lease) {
      if (keys.count >= MOST_KEYS && keys.find(key) == null) {
        return FULL;
      }
      if (lease != 0 && findLease(lease) == NONE) {
        return NO_LEASE;
      }
      writeOne(key, value, lease);
      endChange();
      return revision;
    }

    int deleteRange(int from, int to) {
      int first = keys.firstFrom(from);
      int gone = keys.firstFrom(to + 1) - first;
      for (int i = 0; i < gone; i++) {
        deleteAt(first);
      }
      endChange();
      return gone;
    }

    int revertTo(int goal, KeyRow past) {
      int refusal = recall(goal, past);
      if (refusal != 0) {
        return refusal;
      }
      int had = events.count;
      deleteAllBut(past);
      writeUnlike(past);
      int made = events.count - had;
      endChange();
      return made;
    }

    private void deleteAllBut(KeyRow past) {
      int index = 0;
      for (int left = keys.count; left > 0; left--) {
        Key key = keys.at(index);
        if (key != null && past.indexOf(key.key) == NONE) {
          deleteAt(index);
        } else {
          index++;
        }
      }
    }

    private void writeUnlike(KeyRow past) {
      for (int i = 0; i < past.count; i++) {
        Key was = past.at(i);
        Key is = was == null ? null : keys.find(was.key);
        if (was != null && (is == null || is.value != was.value)) {
          writeOne(was.key, was.value, 0);
        }
      }
    }

    int attachKey(int key, int lease) {
      Key found = keys.find(key);
      if (found == null) {
        return NONE;
      }
      if (lease != 0 && findLease(lease) == NONE) {
        return NO_LEASE;
      }
      int had = found.lease;
      found.lease = lease;
      return had;
    }

    Watch watchAt(int index) {
      return index >= 0 && index < watchCount && index < MOST_WATCHES ? watches[index] : null;
    }

    boolean startsTooLate(int start) {
      return start > revision + 1;
    }

    /** The index of the first event that a watch sees which begins at a revision. */
    int firstEventFor(int start) {
      return start == 0 ? events.count : events.countTo(start - 1);
    }

    int addWatch(int from, int to, int start, int kinds) {
      if (watchCount < 0 || watchCount >= MOST_WATCHES) {
        return FULL;
      }
      if (startsTooLate(start)) {
        return FUTURE;
      }
      Watch watch = watches[watchCount];
      if (watch == null) {
        return FULL;
      }
      watch.from = from;
      watch.to = to;
      watch.kinds = kinds;
      watch.took = 0;
      watch.beginAt(firstEventFor(start));
      watchCount++;
      return watchCount - 1;
    }

    void removeWatch(int index) {
      Watch gone = watchAt(index);
      if (gone == null) {
        return;
      }
      int last = index;
      for (; last + 1 < watchCount && last + 1 < MOST_WATCHES; last++) {
        watches[last] = watches[last + 1];
      }
      // The object stays in the row, so that a later watch can use it.
      watches[last] = gone;
      watchCount--;
    }

    Lease leaseAt(int index) {
      return index >= 0 && index < leaseCount && index < MOST_LEASES ? leases[index] : null;
    }

    /** The index of a lease; NONE if there is no such lease. */
    int findLease(int number) {
      for (int i = 0; i < leaseCount; i++) {
        Lease lease = leaseAt(i);
        if (lease != null && lease.number == number) {
          return i;
        }
      }
      return NONE;
    }

    /** The index of the lease that will end first; NONE without leases. */
    int firstToEnd() {
      int first = NONE;
      int least = 0;
      for (int i = 0; i < leaseCount; i++) {
        Lease lease = leaseAt(i);
        if (lease != null && (first == NONE || lease.left < least)) {
          first = i;
          least = lease.left;
        }
      }
      return first;
    }

    int addLease(int ttl) {
      if (leaseCount < 0 || leaseCount >= MOST_LEASES) {
        return FULL;
      }
      Lease lease = leases[leaseCount];
      if (lease == null) {
        return FULL;
      }
      granted++;
      leaseCount++;
      lease.number = granted;
      lease.ttl = ttl;
      lease.left = ttl;
      return granted;
    }

    int renew(int number) {
      Lease lease = leaseAt(findLease(number));
      if (lease == null) {
        return NO_LEASE;
      }
      lease.left = lease.ttl;
      return lease.ttl;
    }

    int endLease(int number) {
      int index = findLease(number);
      if (index == NONE) {
        return NO_LEASE;
      }
      removeLease(index);
      int gone = deleteLeased(number);
      endChange();
      return gone;
    }

    private void removeLease(int index) {
      Lease gone = leaseAt(index);
      if (gone == null) {
        return;
      }
      int last = index;
      for (; last + 1 < leaseCount && last + 1 < MOST_LEASES; last++) {
        leases[last] = leases[last + 1];
      }
      // The object stays in the row, so that a later lease can use it.
      leases[last] = gone;
      leaseCount--;
    }

    private int deleteLeased(int lease) {
      int gone = 0;
      int index = 0;
      for (int left = keys.count; left > 0; left--) {
        Key key = keys.at(index);
        if (key != null && key.lease == lease) {
          deleteAt(index);
          gone++;
        } else {
          index++;
        }
      }
      return gone;
    }

    int letPass(int ticks) {
      int left = ticks;
      // Of leases that end in one tick, the second is reached behind no tick more.
      for (int ended = 0; ended <= MOST_LEASES; ended++) {
        int index = firstToEnd();
        Lease first = leaseAt(index);
        if (first == null || first.left > left) {
          break;
        }
        left -= first.left;
        age(first.left);
        removeLease(index);
        deleteLeased(first.number);
        endChange();
      }
      age(left);
      time += ticks;
      return time;
    }

    private void age(int ticks) {
      for (int i = 0; i < leaseCount; i++) {
        Lease lease = leaseAt(i);
        if (lease != null) {
          lease.left -= ticks;
        }
      }
    }

    int doTransaction() {
      Steps steps = transaction.stepsFor(keys);
      int answer = steps == transaction.thenSteps ? 1 : 0;
      if (keys.count + steps.growthOf(keys) > MOST_KEYS) {
        return FULL;
      }
      for (int i = 0; i < steps.count && i < MOST_PARTS; i++) {
        if (steps.kinds[i] == WRITTEN) {
          writeOne(steps.keys[i], steps.values[i], 0);
        } else {
          deleteAt(keys.indexOf(steps.keys[i]));
        }
      }
      endChange();
      transaction.clear();
      return answer;
    }
  }

  /** The statements of a script: their words and the numbers behind them. */
  private enum Verb {
    PUT("put", 2, KEY_NUMBER, VALUE_NUMBER, COUNTER_NUMBER),
    DELETE("del", 1, KEY_NUMBER, TO_NUMBER, NO_NUMBER),
    GRANT("grant", 1, TICKS_NUMBER, NO_NUMBER, NO_NUMBER),
    KEEP("keep", 1, COUNTER_NUMBER, NO_NUMBER, NO_NUMBER),
    REVOKE("revoke", 1, COUNTER_NUMBER, NO_NUMBER, NO_NUMBER),
    WATCH("watch", 2, KEY_NUMBER, TO_NUMBER, COUNTER_NUMBER),
    COMPACT("compact", 1, REVISION_NUMBER, NO_NUMBER, NO_NUMBER),
    REVERT("revert", 1, REVISION_NUMBER, NO_NUMBER, NO_NUMBER),
    TICK("tick", 1, TICKS_NUMBER, NO_NUMBER, NO_NUMBER),
    ATTACH("attach", 2, KEY_NUMBER, COUNTER_NUMBER, NO_NUMBER);

    private final String word;
    private final int needed;
    private final int first;
    private final int second;
    private final int third;

    Verb(String word, int needed, int first, int second, int third) {
      this.word = word;
      this.needed = needed;
      this.first = first;
      this.second = second;
      this.third = third;
    }

    /** What number stands at an index behind the word. */
    int numberKind(int index) {
      switch (index) {
        case 0: return first;
        case 1: return second;
        case 2: return third;
        default: return NO_NUMBER;
      }
    }
  }

  /** The input buffer, and the reading of it as a script. */
  private static final class Script {
    private static final Verb[] VERBS = Verb.values();
    private static final int MOST_NUMBERS = 3;
    // More than any number may be; a greater one need not be told exactly.
    private static final int ENOUGH = 100000000;

    private final int[] text = new int[MOST_BYTES];
    private final int[] numbers = new int[MOST_NUMBERS];
    private int length;
    private int at;
    private int read;
    private int statement;
    private int start;
    private int error;
    private int errorAt;

    int addBytes(long bytes) {
      int more = 0;
      for (int shift = 56; shift >= 0; shift -= 8) {
        more += (bytes >>> shift & 255) != 0 ? 1 : 0;
      }
      if (length + more > MOST_BYTES) {
        return FULL;
      }
      for (int shift = 56; shift >= 0; shift -= 8) {
        int one = (int) (bytes >>> shift & 255);
        if (one != 0 && length >= 0 && length < MOST_BYTES) {
          text[length] = one;
          length++;
        }
      }
      return length;
    }

    void begin() {
      at = 0;
      statement = NONE;
      error = 0;
      errorAt = 0;
    }

    /** Empties the buffer; answers what load() does. */
    int finish() {
      length = 0;
      return error == 0 ? statement + 1 : -100 - errorAt;
    }

    /** Reads a word and its numbers; null, and the error is kept, if they do not stand there. */
    Verb readStatement() {
      statement++;
      skipSpaces();
      start = at;
      Verb verb = readVerb();
      if (verb == null) {
        fail(BAD_PLACE, start);
        return null;
      }
      return readNumbers(verb) ? verb : null;
    }

    /** Keeps the error if the statement was refused with this answer. */
    void judge(Verb verb, int answer) {
      boolean refused = answer == FULL || answer == NO_LEASE || answer == COMPACTED
          || answer == FUTURE || verb == Verb.ATTACH && answer == NONE;
      if (refused) {
        fail(REFUSED, start);
      }
    }

    /** Passes the semicolon behind a statement; false if the script ends there or has an error. */
    boolean passSemicolon() {
      if (error != 0) {
        return false;
      }
      skipSpaces();
      if (at >= length) {
        return false;
      }
      if (byteAt(at) != ';') {
        return fail(BAD_PLACE, at);
      }
      at++;
      return true;
    }

    int numberAt(int index) {
      return index >= 0 && index < read && index < MOST_NUMBERS ? numbers[index] : 0;
    }

    private boolean fail(int kind, int position) {
      error = kind;
      errorAt = position;
      return false;
    }

    private int byteAt(int index) {
      return index >= 0 && index < length && index < MOST_BYTES ? text[index] : NONE;
    }

    private boolean isDigitAt(int index) {
      int one = byteAt(index);
      return one >= '0' && one <= '9';
    }

    private boolean isLetterAt(int index) {
      int one = byteAt(index);
      return one >= 'a' && one <= 'z';
    }

    private void skipSpaces() {
      while (at < length && byteAt(at) == ' ') {
        at++;
      }
    }

    private Verb readVerb() {
      int end = at;
      while (end < length && isLetterAt(end)) {
        end++;
      }
      for (int i = 0; i < VERBS.length; i++) {
        Verb verb = VERBS[i];
        if (verb != null && isWord(verb.word, end)) {
          at = end;
          return verb;
        }
      }
      return null;
    }

    private boolean isWord(String word, int end) {
      if (word.length() != end - at) {
        return false;
      }
      for (int i = 0; i < word.length(); i++) {
        if (word.charAt(i) != byteAt(at + i)) {
          return false;
        }
      }
      return true;
    }

    private boolean readNumbers(Verb verb) {
      read = 0;
      for (int i = 0; i < MOST_NUMBERS; i++) {
        int kind = verb.numberKind(i);
        if (kind == NO_NUMBER) {
          return true;
        }
        skipSpaces();
        if (!startsNumber(kind)) {
          return i >= verb.needed || fail(BAD_PLACE, at);
        }
        int position = at;
        int number = readNumber();
        if (number < least(kind) || number > most(kind)) {
          return fail(BAD_RANGE, position);
        }
        numbers[i] = number;
        read = i + 1;
      }
      return true;
    }

    private boolean startsNumber(int kind) {
      return isDigitAt(at) || kind == VALUE_NUMBER && byteAt(at) == '-' && isDigitAt(at + 1);
    }

    private int readNumber() {
      boolean negative = byteAt(at) == '-';
      if (negative) {
        at++;
      }
      int number = 0;
      while (at < length && isDigitAt(at)) {
        if (number < ENOUGH) {
          number = number * 10 + byteAt(at) - '0';
        }
        at++;
      }
      return negative ? -number : number;
    }

    private int least(int kind) {
      switch (kind) {
        case VALUE_NUMBER: return -MOST_VALUE;
        case TICKS_NUMBER: return 1;
        case REVISION_NUMBER: return 1;
        // TO stands behind FROM and may not be less.
        case TO_NUMBER: return numberAt(0);
        default: return 0;
      }
    }

    private static int most(int kind) {
      switch (kind) {
        case VALUE_NUMBER: return MOST_VALUE;
        case TICKS_NUMBER: return MOST_TICKS;
        case REVISION_NUMBER: return MOST_COUNTER;
        case COUNTER_NUMBER: return MOST_COUNTER;
        default: return LAST_KEY;
      }
    }
  }
}
