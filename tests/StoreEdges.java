/** Sections 2 and 3, and promises 6 to 26. */
final class StoreEdges extends Bench {
  private static final String TWO_RANGES =
      "Throws `IllegalArgumentException` if from or to is out of range, or revision is negative";
  private static final String KEY_AND_RANGE =
      "Throws `IllegalArgumentException` if key, from or to is out of range";

  /** Revisions: 2 writes 5, 3 writes 6, 4 writes 5 again, 5 deletes 6, 6 writes 6 anew. */
  private static WatchedKeys withHistory() {
    return loaded("put 5 50;put 6 60;put 5 51;del 6;put 6 61");
  }

  /** The same, where the revisions up to 3 are compacted. */
  private static WatchedKeys compacted() {
    return loaded("put 5 50;put 6 60;put 5 51;del 6;put 6 61;compact 3");
  }

  /** A store with 120 events, of which six are of revision 2, at the revision 116. */
  private static WatchedKeys withManyEvents() {
    WatchedKeys x = new WatchedKeys();
    for (int key = 0; key < 6; key++) {
      x.then(0, key, key);
    }
    x.commit();
    for (int i = 0; i < 114; i++) {
      x.put(500 + i % 3, i, 0);
    }
    return x;
  }

  @Holds(at = "What it is", says = "An object is used for at most 512 calls after it has been made")
  static void allCallsOfAnObject() {
    WatchedKeys x = new WatchedKeys();
    for (int i = 1; i <= 510; i++) {
      due(i + 1, x.put(i % 16, i, 0));
    }
    due(391, x.count(1));
    due(510, x.get(14, 0));
  }

  @Holds(at = "Section 2", says = {
      "A store begins with the revision 1, without keys.", "There are at most 16 keys, 0 to 999."})
  static void keysOfAStore() {
    WatchedKeys x = new WatchedKeys();
    due(1, x.count(0));
    due(0, x.count(2));
    due(2, x.put(0, 0, 0));
    due(3, x.put(999, 0, 0));
    fill(x, 1, 14);
    due(16, x.count(2));
    due(FULL, x.put(500, 0, 0));
    due(1, x.delete(0, 0));
    due(19, x.put(500, 0, 0));
    due(FULL, x.put(0, 0, 0));
    due("1 2 3 4 5 6 7 8 9 10 11 12 13 14 500 999", keys(x, 0));
    due(ILLEGAL, answerOf(() -> x.put(1000, 0, 0)));
    due(ILLEGAL, answerOf(() -> x.put(-1, 0, 0)));
  }

  @Holds(at = "Section 2", says =
      "Each change that writes or deletes keys makes the present revision 1 greater; what it does "
      + "has this revision, and each key that it writes or deletes is an event, in the order in "
      + "which that happens.")
  static void revisionsOfChanges() {
    WatchedKeys x = new WatchedKeys();
    x.grant(5);
    x.put(9, 1, 1);
    due("2 0 9 1 " + NO_VALUE + " 1", event(x, 0));
    x.put(9, 1, 1);
    due("3 0 9 1 1 1", event(x, 1));
    x.put(3, 1, 1);
    x.delete(0, 999);
    due("5 1 3 0 1 1", event(x, 3));
    due("5 1 9 0 1 1", event(x, 4));
    x.then(0, 8, 1);
    x.then(1, 9, 1);
    x.then(0, 2, 1);
    x.commit();
    due("6 0 8 1 " + NO_VALUE + " 0", event(x, 5));
    due("6 0 2 1 " + NO_VALUE + " 0", event(x, 6));
    x.revert(4);
    due("7 1 2 0 1 0", event(x, 7));
    due("7 1 8 0 1 0", event(x, 8));
    due("7 0 3 1 " + NO_VALUE + " 0", event(x, 9));
    due("7 0 9 1 " + NO_VALUE + " 0", event(x, 10));
    x.attach(3, 1);
    x.revoke(1);
    due("8 1 3 0 1 1", event(x, 11));
    x.grant(1);
    x.attach(9, 2);
    x.tick(1);
    due("9 1 9 0 1 2", event(x, 12));
    due("9 0 0 0 0 13 1 0 0 0", counts(x));
  }

  @Holds(at = "Section 2", says = "Each change that writes or deletes keys")
  static void changesWithoutKeys() {
    WatchedKeys x = loaded("put 5 5;put 5 6;del 5;put 6 6");
    x.grant(5);
    x.grant(6);
    x.attach(6, 1);
    x.attach(6, 0);
    x.delete(5, 5);
    x.revert(5);
    x.revoke(1);
    x.tick(6);
    x.compact(2);
    x.watch(0, 9, 1, 0);
    x.take(0);
    x.commit();
    x.then(1, 5, 0);
    x.commit();
    due(5, x.count(0));
    due(3, x.count(5));
    due(6, x.put(6, 7, 0));
  }

  @Holds(at = "Section 2", says = {
      "A key has a value, a lease, the revision in which it came into being, the one in which it "
      + "was written last, and a version: 1 when it comes into being, 1 more with each write.",
      "A key that was deleted and is written again comes into being anew."})
  static void numbersOfAKey() {
    WatchedKeys x = new WatchedKeys();
    x.grant(500);
    x.put(5, 50, 1);
    due("5 50 2 2 1 1", key(x, 5));
    x.put(6, 60, 0);
    x.put(5, 50, 0);
    due("5 50 2 4 2 0", key(x, 5));
    x.then(0, 5, 52);
    x.commit();
    due("5 52 2 5 3 0", key(x, 5));
    x.revert(3);
    due("5 50 2 6 4 0", key(x, 5));
    x.attach(5, 1);
    due("5 50 2 6 4 1", key(x, 5));
    x.delete(5, 5);
    due("5 " + (NO_VALUE + " ").repeat(4) + NO_VALUE, key(x, 5));
    x.put(5, 53, 0);
    due("5 53 8 8 1 0", key(x, 5));
    x.then(1, 5, 0);
    x.then(0, 6, 1);
    x.commit();
    x.revert(8);
    due("5 53 10 10 1 0", key(x, 5));
    due("6 60 3 10 3 0", key(x, 6));
    x.attach(5, 1);
    x.revoke(1);
    x.put(5, 54, 0);
    due("5 54 12 12 1 0", key(x, 5));
  }

  @Holds(at = "Section 3", says = {
      "The compacted revision is 0 at first.",
      "(At the compacted revision 0 there is the empty store.)"})
  static void compactedAtFirst() {
    WatchedKeys x = new WatchedKeys();
    due(0, x.count(1));
    due(0, x.keysAt(0, 999, 1));
    due(17, x.digest(1));
    x.put(5, 5, 0);
    due(NO_VALUE, x.getAt(5, 1));
    due(0, x.keysAt(0, 999, 1));
    due(NONE, x.keyAt(0, 999, 0, 1));
    due(0L, x.sumAt(0, 999, 1));
    due(17, x.digest(1));
    due(1, x.changed(1, 2));
    due(0, x.compact(1));
    due(NO_VALUE, x.getAt(5, 1));
    due(1, x.revert(1));
  }

  @Holds(at = "Section 3", says =
      "The store can be asked for its state at each revision from the compacted one on to the "
      + "present one: COMPACTED is the answer for an earlier one, FUTURE for a later one.")
  static void askableRevisions() {
    WatchedKeys x = compacted();
    for (int revision : new int[] {1, 2}) {
      due(COMPACTED, x.getAt(7, revision));
      due(COMPACTED, x.keysAt(7, 8, revision));
      due(COMPACTED, x.keyAt(7, 8, 0, revision));
      due((long) COMPACTED, x.sumAt(7, 8, revision));
      due(COMPACTED, x.changed(revision, 3));
      due(COMPACTED, x.changed(3, revision));
      due(COMPACTED, x.changed(revision, revision));
      due(COMPACTED, x.revert(revision));
      due(0, x.digest(revision));
    }
    for (int revision : new int[] {7, 8, 10000, MOST}) {
      due(FUTURE, x.getAt(7, revision));
      due(FUTURE, x.keysAt(7, 8, revision));
      due(FUTURE, x.keyAt(7, 8, 0, revision));
      due((long) FUTURE, x.sumAt(7, 8, revision));
      due(FUTURE, x.changed(revision, 3));
      due(FUTURE, x.changed(3, revision));
      due(FUTURE, x.changed(revision, revision));
      due(FUTURE, x.revert(revision));
      due(0, x.digest(revision));
    }
    String[] states = {"5:50 6:60", "5:51 6:60", "5:51", "5:51 6:61"};
    for (int revision = 3; revision <= 6; revision++) {
      StringBuilder state = new StringBuilder();
      for (int i = 0; i < x.keysAt(0, 999, revision); i++) {
        int key = x.keyAt(0, 999, i, revision);
        state.append(i == 0 ? "" : " ").append(key).append(':').append(x.getAt(key, revision));
      }
      due(states[revision - 3], state.toString());
    }
  }

  @Holds(at = "Section 3", says =
      "To compact the store to a revision means that this becomes the compacted one, and that all "
      + "events of this revision and earlier ones are gone.")
  static void compacting() {
    for (int goal = 1; goal <= 6; goal++) {
      WatchedKeys x = withHistory();
      String[] digests = new String[7];
      for (int revision = 1; revision <= 6; revision++) {
        digests[revision] = "" + x.digest(revision);
      }
      due(goal - 1, x.compact(goal));
      due(goal, x.count(1));
      due(6 - goal, x.count(5));
      due(6, x.count(0));
      for (int index = 0; index < 6 - goal; index++) {
        due(goal + 1 + index, x.event(index, 0));
      }
      for (int revision = 1; revision <= 6; revision++) {
        due(revision < goal ? "0" : digests[revision], "" + x.digest(revision));
      }
    }
    WatchedKeys x = loaded("put1 1;put2 2;put3 3;del1 2;del3");
    due(3, x.compact(4));
    due(3, x.count(5));
    due(2, x.compact(5));
    due("6 1 3 0 3 0", event(x, 0));
  }

  @Holds(at = "Section 3", says =
      "If there are more than 120 events behind a change, the store is compacted by itself to the "
      + "revision of the earliest event, again and again, until there are 120 or fewer.")
  static void compactsItself() {
    WatchedKeys x = withManyEvents();
    due("116 0 9 0 0 120 0 0 0 0", counts(x));
    due(0, x.getAt(0, 2));
    due(17, x.digest(1));
    due(117, x.put(500, 1, 0));
    due("117 2 9 0 0 115 0 0 0 0", counts(x));
    due(COMPACTED, x.getAt(0, 1));
    due(0, x.getAt(0, 2));
    due(3, x.event(0, 0));
    for (int i = 0; i < 5; i++) {
      x.put(500, i, 0);
    }
    due("122 2 9 0 0 120 0 0 0 0", counts(x));
    due(9, x.delete(0, 999));
    due("123 11 0 0 0 120 0 0 0 0", counts(x));
    due(12, x.event(0, 0));
    due("0 1 2 3 4 5 500 501 502", keys(x, 11));
    due(COMPACTED, x.keysAt(0, 999, 10));
    due(9, x.revert(122));
    due("124 20 9 0 0 120 0 0 0 0", counts(x));
    x.then(0, 700, 1);
    x.then(0, 701, 1);
    x.commit();
    due("125 22 11 0 0 120 0 0 0 0", counts(x));
  }

  @Holds(at = "Section 3", says = "again and again, until there are 120 or fewer")
  static void compactsItselfAtEnds() {
    WatchedKeys x = withManyEvents();
    x.grant(2);
    x.grant(2);
    x.attach(0, 1);
    x.attach(1, 2);
    x.attach(2, 2);
    x.tick(2);
    due("118 2 6 0 0 117 2 0 0 0", counts(x));
    x = withManyEvents();
    x.grant(2);
    x.attach(500, 1);
    due(1, x.revoke(1));
    due("117 2 8 0 0 115 0 0 0 0", counts(x));
    x = withManyEvents();
    due(120, x.compact(116));
    due("116 116 9 0 0 0 0 0 0 0", counts(x));
    x = withManyEvents();
    x.revert(2);
    due("117 2 6 0 0 117 0 0 0 0", counts(x));
    x = filled(0, 16);
    x.delete(0, 999);
    fill(x, 100, 16);
    for (int i = 0; i < 72; i++) {
      x.put(100 + i % 3, 1000 + i, 0);
    }
    due("106 0 16 0 0 120 0 0 0 0", counts(x));
    due(32, x.revert(17));
    due("107 18 16 0 0 120 0 0 0 0", counts(x));
    due("107 1 100 0 1069 0", event(x, 88));
    due("107 0 15 15 " + NO_VALUE + " 0", event(x, 119));
    due(16, x.keysAt(100, 115, 106));
    due(0, x.keysAt(0, 999, 18));
    due(COMPACTED, x.keysAt(0, 999, 17));
  }

  @Holds(at = "Promise 6", says = {
      "Returns a number.",
      "0 the present revision, 1 the compacted one, 2 keys, 3 leases, 4 watches, 5 events that "
      + "are kept, 6 the time, 7 conditions of the transaction, 8 its steps for THEN, 9 those for "
      + "ELSE", "Returns the number."})
  static void counts() {
    due("1 0 0 0 0 0 0 0 0 0", counts(new WatchedKeys()));
    due("8 3 3 2 2 5 3 2 2 1", counts(rich()));
    WatchedKeys x = rich();
    x.unwatch(0);
    x.revoke(2);
    x.drop();
    due("9 3 2 1 1 6 3 0 0 0", counts(x));
  }

  @Holds(at = "Promise 6", says = "Throws `IllegalArgumentException` if what is out of range")
  static void countLimits() {
    dueLimits(0, 9, (x, what) -> x.count(what));
  }

  @Holds(at = "Promise 7", says = {
      "Returns a number of a key as it is now.",
      "0 its value, 1 the revision in which it came into being, 2 the one in which it was written "
      + "last, 3 its version, 4 its lease (0 for none)",
      "Returns the number; NO_VALUE if there is no such key."})
  static void numbersOfKeys() {
    WatchedKeys x = rich();
    due("5 51 2 4 2 1", key(x, 5));
    due("7 71 6 8 2 2", key(x, 7));
    due("0 1 7 7 1 1", key(x, 0));
    String none = (" " + NO_VALUE).repeat(5);
    for (int key : new int[] {1, 4, 6, 8, 999}) {
      due(key + none, key(x, key));
    }
    x.put(999, -1000000, 0);
    due("999 -1000000 9 9 1 0", key(x, 999));
    due("0" + none, key(new WatchedKeys(), 0));
  }

  @Holds(at = "Promise 7", says = {
      "0 to 999", "Throws `IllegalArgumentException` if key or what is out of range"})
  static void getLimits() {
    dueLimits(0, 999, (x, key) -> x.get(key, 0));
    dueLimits(0, 4, (x, what) -> x.get(5, what));
    dueLimits(0, 4, (x, what) -> x.get(6, what));
  }

  @Holds(at = "Promise 8", says = {
      "Returns the value of a key at a revision.", "a revision; 0 for the present one",
      "Returns the value; NO_VALUE if there was no such key; COMPACTED or FUTURE if the revision "
      + "cannot be asked (section 3)."})
  static void valuesAtRevisions() {
    WatchedKeys x = withHistory();
    int[] fives = {51, NO_VALUE, 50, 50, 51, 51, 51, FUTURE};
    int[] sixes = {61, NO_VALUE, NO_VALUE, 60, 60, NO_VALUE, 61, FUTURE};
    for (int revision = 0; revision <= 7; revision++) {
      due(fives[revision], x.getAt(5, revision));
      due(sixes[revision], x.getAt(6, revision));
      due(revision == 7 ? FUTURE : NO_VALUE, x.getAt(0, revision));
    }
    x.compact(6);
    due(COMPACTED, x.getAt(5, 5));
    due(51, x.getAt(5, 6));
    due(51, x.getAt(5, 0));
    due(FUTURE, x.getAt(0, MOST));
    due(COMPACTED, x.getAt(999, 1));
    x = loaded("put 5 -5;put 5 -1000000;del 5");
    due(-5, x.getAt(5, 2));
    due(-1000000, x.getAt(5, 3));
    due(NO_VALUE, x.getAt(5, 0));
  }

  @Holds(at = "Promise 8", says = {
      "0 to 999",
      "Throws `IllegalArgumentException` if key is out of range, or revision is negative"})
  static void getAtLimits() {
    dueLimits(0, 999, (x, key) -> x.getAt(key, 0));
    dueLimits(0, MOST, (x, revision) -> x.getAt(5, revision));
    dueIllegal(x -> x.getAt(-1, 1));
    dueIllegal(x -> x.getAt(1000, 99));
  }

  @Holds(at = "Promise 9", says = {
      "Returns how many keys of a range there were at a revision.",
      "a revision; 0 for the present one",
      "Returns the number; COMPACTED or FUTURE if the revision cannot be asked."})
  static void keysAtRevisions() {
    WatchedKeys x = withHistory();
    int[] due = {2, 0, 1, 2, 2, 1, 2, FUTURE};
    for (int revision = 0; revision <= 7; revision++) {
      due(due[revision], x.keysAt(0, 999, revision));
      due(due[revision], x.keysAt(5, 6, revision));
      due(revision == 7 ? FUTURE : 0, x.keysAt(7, 999, revision));
      due(revision == 7 ? FUTURE : 0, x.keysAt(0, 4, revision));
    }
    due(1, x.keysAt(5, 5, 3));
    due(1, x.keysAt(6, 6, 3));
    due(1, x.keysAt(0, 5, 0));
    due(1, x.keysAt(6, 999, 0));
    x.put(0, 0, 0);
    x.put(999, 0, 0);
    due(4, x.keysAt(0, 999, 0));
    due(1, x.keysAt(0, 0, 0));
    due(1, x.keysAt(999, 999, 0));
    due(2, x.keysAt(1, 998, 0));
    x.compact(3);
    due(COMPACTED, x.keysAt(0, 999, 2));
    due(2, x.keysAt(0, 999, 3));
    due(16, filled(100, 16).keysAt(0, 999, 0));
  }

  @Holds(at = "Promise 9", says = {
      "0 to to", "0 to 999", TWO_RANGES})
  static void keysAtLimits() {
    dueRangeLimits((x, from, to) -> x.keysAt(from, to, 0));
    dueLimits(0, MOST, (x, revision) -> x.keysAt(0, 9, revision));
    dueIllegal(x -> x.keysAt(6, 5, 99));
  }

  @Holds(at = "Promise 10", says = {
      "Returns a key of a range at a revision.", "the index among them in rising order, from 0",
      "a revision; 0 for the present one",
      "Returns the key; NONE if there is no such index; COMPACTED or FUTURE if the revision "
      + "cannot be asked."})
  static void keyAtIndex() {
    WatchedKeys x = loaded("put 7 1;put 3 1;put 5 1;del 3;put 0 1;put 999 1");
    due("0 5 7 999", keys(x, 0));
    due("3 5 7", keys(x, 4));
    due(NONE, x.keyAt(0, 999, 4, 0));
    due(NONE, x.keyAt(0, 999, -1, 0));
    due(NONE, x.keyAt(0, 999, LEAST, 0));
    due(NONE, x.keyAt(0, 999, MOST, 0));
    due(NONE, x.keyAt(5, 999, MOST, 0));
    due(NONE, x.keyAt(5, 999, -1, 0));
    due(5, x.keyAt(1, 998, 0, 0));
    due(7, x.keyAt(1, 998, 1, 0));
    due(NONE, x.keyAt(1, 998, 2, 0));
    due(5, x.keyAt(5, 5, 0, 0));
    due(NONE, x.keyAt(5, 5, 1, 0));
    due(NONE, x.keyAt(6, 6, 0, 0));
    due(999, x.keyAt(999, 999, 0, 0));
    due(0, x.keyAt(0, 0, 0, 0));
    due(NONE, x.keyAt(0, 999, 0, 1));
    due(7, x.keyAt(0, 999, 0, 2));
    due(NONE, x.keyAt(0, 999, 1, 2));
    due(FUTURE, x.keyAt(0, 999, 0, 8));
    due(FUTURE, x.keyAt(0, 999, 16, 8));
    WatchedKeys y = loaded("put 3 1;put 5 1;put 7 1;del 7");
    due(7, y.keyAt(0, 999, 2, 4));
    for (int from = 0; from <= 6; from++) {
      for (int index = 0; index <= 4; index++) {
        int due = from <= 3 && index == 0 ? 3 : from <= 3 && index == 1 || from == 4 && index == 0
            || from == 5 && index == 0 ? 5 : NONE;
        due(from + " " + index + " " + due, from + " " + index + " " + y.keyAt(from, 999, index, 0));
      }
    }
    x.compact(4);
    due(COMPACTED, x.keyAt(0, 999, -1, 3));
    due(COMPACTED, x.keyAt(0, 999, 0, 3));
    due(3, x.keyAt(0, 999, 0, 4));
  }

  @Holds(at = "Promise 10", says = {
      "0 to to", "0 to 999", TWO_RANGES})
  static void keyAtLimits() {
    dueRangeLimits((x, from, to) -> x.keyAt(from, to, 0, 0));
    dueLimits(0, MOST, (x, revision) -> x.keyAt(0, 9, 0, revision));
    dueLimits(LEAST, MOST, (x, index) -> x.keyAt(0, 9, index, 0));
    dueIllegal(x -> x.keyAt(6, 5, -1, 99));
  }

  @Holds(at = "Promise 11", says = {
      "Returns the sum of the values of the keys of a range at a revision.",
      "a revision; 0 for the present one",
      "Returns the sum; COMPACTED or FUTURE if the revision cannot be asked."})
  static void sums() {
    WatchedKeys x = withHistory();
    long[] due = {112, 0, 50, 110, 111, 51, 112, FUTURE};
    for (int revision = 0; revision <= 7; revision++) {
      due(due[revision], x.sumAt(0, 999, revision));
      due(due[revision], x.sumAt(5, 6, revision));
    }
    due(51L, x.sumAt(5, 5, 0));
    due(61L, x.sumAt(6, 6, 0));
    due(51L, x.sumAt(0, 5, 0));
    due(0L, x.sumAt(7, 999, 0));
    x.compact(4);
    due((long) COMPACTED, x.sumAt(0, 999, 3));
    due(111L, x.sumAt(0, 999, 4));
    WatchedKeys y = new WatchedKeys();
    for (int key = 0; key < 15; key++) {
      y.put(key, -1000000, 0);
    }
    y.put(999, 7, 0);
    due(-14999993L, y.sumAt(0, 999, 0));
    due(7L, y.sumAt(999, 999, 0));
    due(-1000000L, y.sumAt(0, 0, 0));
  }

  @Holds(at = "Promise 11", says = {
      "0 to to", "0 to 999", TWO_RANGES})
  static void sumAtLimits() {
    dueRangeLimits((x, from, to) -> x.sumAt(from, to, 0));
    dueLimits(0, MOST, (x, revision) -> x.sumAt(0, 9, revision));
    dueIllegal(x -> x.sumAt(6, 5, 99));
  }

  @Holds(at = "Promise 12", says = {
      "Returns how many keys have unlike values at two revisions, or are there at one of them "
      + "alone.", "a revision; 0 for the present one"})
  static void changes() {
    WatchedKeys x = withHistory();
    int[][] due = {
        {0, 2, 2, 2, 1, 1, 0}, {2, 0, 1, 2, 2, 1, 2}, {2, 1, 0, 1, 2, 1, 2}, {2, 2, 1, 0, 1, 2, 2},
        {1, 2, 2, 1, 0, 1, 1}, {1, 1, 1, 2, 1, 0, 1}, {0, 2, 2, 2, 1, 1, 0}};
    for (int one = 0; one <= 6; one++) {
      for (int other = 0; other <= 6; other++) {
        due(one + " " + other + " " + due[one][other], one + " " + other + " " + x.changed(one, other));
      }
    }
    x = loaded("grant 5;put 1 0;put 1 0;put 1 0 1;del 1;put 1 0;put 2 0");
    due(0, x.changed(2, 4));
    due(0, x.changed(2, 6));
    due(1, x.changed(4, 5));
    due(1, x.changed(6, 0));
    WatchedKeys y = filled(0, 16);
    y.delete(0, 999);
    fill(y, 100, 16);
    due(32, y.changed(17, 0));
    due(16, y.changed(18, 0));
  }

  @Holds(at = "Promise 12", says =
      "Returns the number; COMPACTED or FUTURE if one of them (the first one first) cannot be "
      + "asked.")
  static void changedRefusals() {
    WatchedKeys x = compacted();
    due(2, x.changed(3, 6));
    due(COMPACTED, x.changed(2, 7));
    due(FUTURE, x.changed(7, 2));
    due(COMPACTED, x.changed(2, 1));
    due(COMPACTED, x.changed(6, 2));
    due(COMPACTED, x.changed(2, 6));
    due(FUTURE, x.changed(3, 7));
    due(FUTURE, x.changed(7, 3));
    due(FUTURE, x.changed(MOST, 0));
    due(FUTURE, x.changed(0, MOST));
  }

  @Holds(at = "Promise 12", says = "Throws `IllegalArgumentException` if one or other is negative")
  static void changedLimits() {
    dueLimits(0, MOST, (y, one) -> y.changed(one, 0));
    dueLimits(0, MOST, (y, other) -> y.changed(0, other));
    dueIllegal(y -> y.changed(1, -1));
    dueIllegal(y -> y.changed(99, -1));
  }

  @Holds(at = "Promise 13", says = {
      "from 17 on, for each key at a revision in rising order 31 times the number before plus the "
      + "key, then 31 times that plus the value, as int arithmetic does.",
      "a revision; 0 for the present one",
      "Returns the number; 0 if the revision cannot be asked."})
  static void digests() {
    due(17, new WatchedKeys().digest(0));
    due(17, new WatchedKeys().digest(1));
    due(0, new WatchedKeys().digest(2));
    WatchedKeys x = loaded("put 6 -60;put 5 50;put 5 51");
    due(17 * 961 + 6 * 31 - 60, x.digest(2));
    due((17 * 961 + 5 * 31 + 50) * 961 + 6 * 31 - 60, x.digest(3));
    due((17 * 961 + 5 * 31 + 51) * 961 + 6 * 31 - 60, x.digest(4));
    due((17 * 961 + 5 * 31 + 51) * 961 + 6 * 31 - 60, x.digest(0));
    due(0, x.digest(5));
    due(0, x.digest(MOST));
    x.compact(3);
    due(0, x.digest(2));
    due(0, x.digest(1));
    due((17 * 961 + 5 * 31 + 50) * 961 + 6 * 31 - 60, x.digest(3));
    WatchedKeys y = new WatchedKeys();
    int number = 17;
    for (int key = 984; key <= 999; key++) {
      y.put(key, 1000000 - key, 0);
      number = number * 31 + key;
      number = number * 31 + 1000000 - key;
      due(number, y.digest(0));
    }
  }

  @Holds(at = "Promise 13", says = "Throws `IllegalArgumentException` if revision is negative")
  static void digestLimits() {
    dueLimits(0, MOST, (x, revision) -> x.digest(revision));
  }

  @Holds(at = "Promise 14", says = {
      "Returns the value that a key had in a version of it, since it came into being last, by the "
      + "events that are kept.",
      "Returns the value; NO_VALUE if there is no such key now, or no event of that version is "
      + "kept."})
  static void versions() {
    WatchedKeys x = loaded("put 5 50;put 6 1;put 5 51;put 5 52");
    due(50, x.versionAt(5, 1));
    due(51, x.versionAt(5, 2));
    due(52, x.versionAt(5, 3));
    due(NO_VALUE, x.versionAt(5, 4));
    due(NO_VALUE, x.versionAt(5, MOST));
    due(1, x.versionAt(6, 1));
    due(NO_VALUE, x.versionAt(6, 2));
    due(NO_VALUE, x.versionAt(7, 1));
    x.compact(2);
    due(NO_VALUE, x.versionAt(5, 1));
    due(51, x.versionAt(5, 2));
    x.compact(5);
    due(NO_VALUE, x.versionAt(5, 3));
    x.put(5, 53, 0);
    due(53, x.versionAt(5, 4));
    x.delete(5, 5);
    due(NO_VALUE, x.versionAt(5, 4));
    x.put(5, 54, 0);
    due(54, x.versionAt(5, 1));
    due(NO_VALUE, x.versionAt(5, 2));
    due(NO_VALUE, x.versionAt(5, 4));
    due("5:54 5:53", "5:" + x.getAt(5, 0) + " 5:" + x.getAt(5, 6));
    x = loaded("put 5 1;put 5 2;del 5;put 5 3");
    due(3, x.versionAt(5, 1));
    due(NO_VALUE, x.versionAt(5, 2));
    x.compact(5);
    due(NO_VALUE, x.versionAt(5, 1));
    x.revert(5);
    x.put(5, 4, 0);
    x.revert(5);
    due(4, x.versionAt(5, 2));
    due(3, x.versionAt(5, 3));
  }

  @Holds(at = "Promise 14", says = {
      "0 to 999", "1 or more",
      "Throws `IllegalArgumentException` if key is out of range, or version is less than 1"})
  static void versionAtLimits() {
    dueLimits(0, 999, (x, key) -> x.versionAt(key, 1));
    dueLimits(1, MOST, (x, version) -> x.versionAt(5, version));
    dueIllegal(x -> x.versionAt(6, 0));
    dueIllegal(x -> x.versionAt(6, -1));
  }

  @Holds(at = "Promise 15", says = {
      "Returns a number of an event that is kept.", "the index, from 0 for the earliest one",
      "0 its revision, 1 its kind: 0 written, 1 deleted, 2 its key, 3 the value (0 if it was "
      + "deleted), 4 the value before (NO_VALUE without one), 5 the lease of the key then (of a "
      + "deleted one: that it had)"})
  static void events() {
    WatchedKeys x = loaded("grant 9;put 5 50 1;put 5 51;put 6 -60;attach 6 1;put 0 0;del 5 6;put 6 7 1");
    due("2 0 5 50 " + NO_VALUE + " 1", event(x, 0));
    due("3 0 5 51 50 0", event(x, 1));
    due("4 0 6 -60 " + NO_VALUE + " 0", event(x, 2));
    due("5 0 0 0 " + NO_VALUE + " 0", event(x, 3));
    due("6 1 5 0 51 0", event(x, 4));
    due("6 1 6 0 -60 1", event(x, 5));
    due("7 0 6 7 " + NO_VALUE + " 1", event(x, 6));
    x.attach(6, 0);
    due("7 0 6 7 " + NO_VALUE + " 1", event(x, 6));
    x.revoke(1);
    due("7 0 6 7 " + NO_VALUE + " 1", event(x, 6));
    x.compact(3);
    due("4 0 6 -60 " + NO_VALUE + " 0", event(x, 0));
    due("7 0 6 7 " + NO_VALUE + " 1", event(x, 4));
    due(OUTSIDE, answerOf(() -> x.event(5, 0)));
  }

  @Holds(at = "Promise 15", says = {
      "Returns the number.", "Throws `IllegalArgumentException` if what is out of range"})
  static void eventNumberLimits() {
    dueLimits(0, 5, (x, what) -> x.event(4, what));
    dueLimits(0, 5, (x, what) -> x.event(0, what));
  }

  @Holds(at = "Promise 15", says = "Throws `IndexOutOfBoundsException` if there is no such event")
  static void eventLimits() {
    due(5, rich().count(5));
    dueAllowed(x -> x.event(4, 0));
    dueAllowed(x -> x.event(0, 0));
    for (int index : new int[] {-1, 5, 6, LEAST, MOST}) {
      dueOutside(x -> x.event(index, 0));
      dueOutside(x -> x.event(index, 6));
      dueOutside(x -> x.event(index, -1));
    }
    dueRefusal(OUTSIDE, WatchedKeys::new, x -> x.event(0, 0));
    due(OUTSIDE, answerOf(() -> withManyEvents().event(120, 0)));
    due(116, withManyEvents().event(119, 0));
  }

  @Holds(at = "Promise 16", says = {
      "Returns how many of the events that are kept are of a key.", "Returns the number."})
  static void writesOfKeys() {
    WatchedKeys x = withHistory();
    due("0 2 3 0", x.writes(4) + " " + x.writes(5) + " " + x.writes(6) + " " + x.writes(7));
    x.compact(4);
    due("0 0 2 0", x.writes(4) + " " + x.writes(5) + " " + x.writes(6) + " " + x.writes(7));
    x.delete(0, 999);
    due("0 1 3 0", x.writes(4) + " " + x.writes(5) + " " + x.writes(6) + " " + x.writes(7));
    x.put(0, 1, 0);
    x.put(999, 1, 0);
    due("1 1", x.writes(0) + " " + x.writes(999));
  }

  @Holds(at = "Promise 16", says = {
      "0 to 999", "Throws `IllegalArgumentException` if key is out of range"})
  static void writesLimits() {
    dueLimits(0, 999, (x, key) -> x.writes(key));
  }

  @Holds(at = "Promise 17", says = {
      "Returns the key with the most events that are kept.",
      "Returns the key, of several the least one; NONE without events."})
  static void busiestKey() {
    WatchedKeys x = new WatchedKeys();
    due(NONE, x.busiest());
    x.put(999, 1, 0);
    due(999, x.busiest());
    x.put(500, 1, 0);
    due(500, x.busiest());
    x.delete(999, 999);
    due(999, x.busiest());
    x.put(500, 1, 0);
    due(500, x.busiest());
    x.put(0, 1, 0);
    x.put(0, 1, 0);
    due(0, x.busiest());
    x.compact(2);
    due(0, x.busiest());
    x.compact(6);
    due(0, x.busiest());
    x.put(500, 1, 0);
    due(0, x.busiest());
    x.compact(7);
    due(500, x.busiest());
    x.compact(8);
    due(NONE, x.busiest());
  }

  @Holds(at = "Promise 18", says = {
      "Returns which part of the events that are kept deleted a key.",
      "Returns (double) (deleted) / (double) (events); 0.0 without any."})
  static void deletedPart() {
    WatchedKeys x = new WatchedKeys();
    due(0.0, x.deletedPart());
    x.put(1, 1, 0);
    due(0.0, x.deletedPart());
    x.put(2, 1, 0);
    x.delete(1, 1);
    due(1.0 / 3.0, x.deletedPart());
    x.delete(0, 9);
    due(2.0 / 4.0, x.deletedPart());
    x.compact(2);
    due(2.0 / 3.0, x.deletedPart());
    x.compact(3);
    due(1.0, x.deletedPart());
    x.compact(5);
    due(0.0, x.deletedPart());
    due(0.0, loaded("put 1 1;del 2;grant 1;tick 1").deletedPart());
  }

  /** Key 8 came first, then 3 and 9 in one revision, then 1; 8 was written again since. */
  private static WatchedKeys withOrder() {
    WatchedKeys x = new WatchedKeys();
    x.put(8, 1, 0);
    x.then(0, 9, 1);
    x.then(0, 3, 1);
    x.commit();
    x.put(1, 1, 0);
    x.put(8, 2, 0);
    return x;
  }

  @Holds(at = "Promise 19", says = {
      "Returns the key of a range that came into being first.",
      "Returns the key, of several of one revision the least one; NONE without keys in the range."})
  static void leaderOfRange() {
    due(NONE, new WatchedKeys().leader(0, 999));
    WatchedKeys x = withOrder();
    due(8, x.leader(0, 999));
    due(8, x.leader(8, 8));
    due(8, x.leader(1, 8));
    due(8, x.leader(8, 9));
    due(3, x.leader(0, 7));
    due(3, x.leader(3, 7));
    due(1, x.leader(0, 2));
    due(9, x.leader(9, 9));
    due(NONE, x.leader(0, 0));
    due(NONE, x.leader(4, 7));
    due(NONE, x.leader(10, 999));
    x.delete(8, 8);
    due(3, x.leader(0, 999));
    x.put(8, 3, 0);
    due(3, x.leader(0, 999));
    due(9, x.leader(4, 999));
    x.put(3, 3, 0);
    due(3, x.leader(0, 999));
    x.delete(0, 999);
    due(NONE, x.leader(0, 999));
    x.revert(6);
    due(1, x.leader(0, 999));
    due(3, x.leader(2, 999));
  }

  @Holds(at = "Promise 19", says = {
      "0 to to", "0 to 999", "Throws `IllegalArgumentException` if from or to is out of range"})
  static void leaderLimits() {
    dueRangeLimits((x, from, to) -> x.leader(from, to));
  }

  @Holds(at = "Promise 20", says = {
      "Returns the key of a range that came into being last of those that came ahead of another "
      + "one of it: by revisions, of one revision by keys.",
      "Returns the key; NONE if none came ahead of it, or it is not there or not in the range."})
  static void keyAhead() {
    WatchedKeys x = withOrder();
    due("9 8 -1 3", x.ahead(1, 0, 999) + " " + x.ahead(3, 0, 999) + " " + x.ahead(8, 0, 999) + " "
        + x.ahead(9, 0, 999));
    due("3 -1", x.ahead(1, 0, 7) + " " + x.ahead(3, 0, 7));
    due("8 -1", x.ahead(9, 4, 999) + " " + x.ahead(8, 4, 999));
    due(3, x.ahead(1, 1, 3));
    due(NONE, x.ahead(1, 1, 1));
    due(NONE, x.ahead(1, 2, 999));
    due(NONE, x.ahead(9, 0, 8));
    due(NONE, x.ahead(7, 0, 999));
    due(NONE, x.ahead(0, 0, 999));
    due(NONE, new WatchedKeys().ahead(0, 0, 999));
    x.delete(8, 8);
    x.put(8, 3, 0);
    due("9 -1 1 3", x.ahead(1, 0, 999) + " " + x.ahead(3, 0, 999) + " " + x.ahead(8, 0, 999) + " "
        + x.ahead(9, 0, 999));
  }

  @Holds(at = "Promise 20", says = {
      "0 to 999", "0 to to", KEY_AND_RANGE})
  static void aheadLimits() {
    dueLimits(0, 999, (x, key) -> x.ahead(key, 0, 999));
    dueRangeLimits((x, from, to) -> x.ahead(5, from, to));
    dueIllegal(x -> x.ahead(6, 6, 5));
  }

  @Holds(at = "Promise 21", says = {
      "Returns how many keys of a range came into being ahead of one of it, as ahead() tells it.",
      "Returns the number; NONE if the key is not there or not in the range."})
  static void placeOfKey() {
    WatchedKeys x = withOrder();
    due("3 1 0 2", x.place(1, 0, 999) + " " + x.place(3, 0, 999) + " " + x.place(8, 0, 999) + " "
        + x.place(9, 0, 999));
    due("1 0", x.place(1, 0, 7) + " " + x.place(3, 0, 7));
    due("1 0", x.place(9, 4, 999) + " " + x.place(8, 4, 999));
    due(0, x.place(1, 1, 1));
    due(1, x.place(1, 1, 3));
    due(1, x.place(9, 8, 9));
    due(NONE, x.place(1, 2, 999));
    due(NONE, x.place(9, 0, 8));
    due(NONE, x.place(7, 0, 999));
    due(NONE, x.place(0, 0, 999));
    due(NONE, new WatchedKeys().place(0, 0, 999));
    x.delete(8, 8);
    x.put(8, 3, 0);
    due("2 0 3 1", x.place(1, 0, 999) + " " + x.place(3, 0, 999) + " " + x.place(8, 0, 999) + " "
        + x.place(9, 0, 999));
    due(15, filled(20, 16).place(35, 0, 999));
  }

  @Holds(at = "Promise 21", says = {
      "0 to 999", "0 to to", KEY_AND_RANGE})
  static void placeLimits() {
    dueLimits(0, 999, (x, key) -> x.place(key, 0, 999));
    dueRangeLimits((x, from, to) -> x.place(5, from, to));
    dueIllegal(x -> x.place(6, 6, 5));
  }

  @Holds(at = "Promise 22", says = {
      "Writes a key: it gets a value and a lease, in place of those that it had.",
      "the number of a lease; 0 for none", "Returns the revision of it"})
  static void puts() {
    WatchedKeys x = new WatchedKeys();
    x.grant(5);
    x.grant(6);
    due(2, x.put(5, 50, 1));
    due(3, x.put(5, 51, 2));
    due("5 51 2 3 2 2", key(x, 5));
    due("5 5 0", lease(x, 1));
    due("6 6 1", lease(x, 2));
    due(4, x.put(5, 51, 2));
    due("5 51 2 4 3 2", key(x, 5));
    due(5, x.put(5, 51, 0));
    due("5 51 2 5 4 0", key(x, 5));
    due(6, x.put(0, 0, 1));
    due(7, x.put(999, 0, 1));
    due("5 5 2", lease(x, 1));
    x.revoke(1);
    due(9, x.put(0, 1, 0));
    due("0 1 9 9 1 0", key(x, 0));
  }

  @Holds(at = "Promise 22", says =
      "FULL if it would be a seventeenth key; NO_LEASE if there is no such lease.")
  static void putRefusals() {
    dueRefusal(FULL, () -> filled(0, 16), x -> x.put(16, 0, 0));
    dueRefusal(FULL, () -> filled(0, 16), x -> x.put(999, 0, 0));
    dueRefusal(FULL, () -> filled(1, 16), x -> x.put(0, 0, 0));
    due(17, filled(0, 15).put(500, 0, 0));
    due(18, filled(0, 16).put(15, 0, 0));
    due(18, filled(0, 16).put(0, 0, 0));
    for (int lease : new int[] {3, 4, MOST}) {
      dueRefusal(NO_LEASE, Bench::rich, x -> x.put(5, 0, lease));
      dueRefusal(NO_LEASE, Bench::rich, x -> x.put(6, 0, lease));
    }
    dueRefusal(NO_LEASE, WatchedKeys::new, x -> x.put(5, 0, 1));
    dueRefusal(NO_LEASE, () -> loaded("grant 1;tick 1"), x -> x.put(5, 0, 1));
    dueRefusal(NO_LEASE, () -> loaded("grant 1;grant 1;revoke 1"), x -> x.put(5, 0, 1));
    due(2, loaded("grant 1;grant 1;revoke 1").put(5, 0, 2));
  }

  @Holds(at = "Promise 22", says = {
      "0 to 999", "-1000000 to 1000000",
      "Throws `IllegalArgumentException` if key or value is out of range, or lease is negative"})
  static void putLimits() {
    dueLimits(0, 999, (x, key) -> x.put(key, 0, 0));
    dueLimits(-1000000, 1000000, (x, value) -> x.put(5, value, 0));
    dueLimits(0, MOST, (x, lease) -> x.put(5, 0, lease));
    due("5 -1000000 2 2 1 0", key(loaded("put 5 -1000000"), 5));
    due("5 1000000 2 2 1 0", key(loaded("put 5 1000000"), 5));
  }

  @Holds(at = "Promise 23", says = {
      "Deletes all keys of a range, in rising order, in one revision.",
      "Returns how many there were (without any, no revision passes)."})
  static void deletes() {
    WatchedKeys x = loaded("put 9 9;put 3 3;put 5 5;put 0 1;put 999 2");
    due(0, x.delete(1, 2));
    due(0, x.delete(10, 998));
    due(0, x.delete(4, 4));
    due("6 0 5 0 0 5 0 0 0 0", counts(x));
    due(3, x.delete(3, 9));
    due("7 0 2 0 0 8 0 0 0 0", counts(x));
    due("7 1 3 0 3 0", event(x, 5));
    due("7 1 5 0 5 0", event(x, 6));
    due("7 1 9 0 9 0", event(x, 7));
    due("0 999", keys(x, 0));
    due(1, x.delete(0, 0));
    due(1, x.delete(999, 999));
    due("9 0 0 0 0 10 0 0 0 0", counts(x));
    due(0, x.delete(0, 999));
    due(9, x.count(0));
    WatchedKeys y = filled(0, 16);
    due(16, y.delete(0, 999));
    due("18 0 0 0 0 32 0 0 0 0", counts(y));
    due(0, new WatchedKeys().delete(0, 0));
  }

  @Holds(at = "Promise 23", says = {
      "0 to to", "0 to 999", "Throws `IllegalArgumentException` if from or to is out of range"})
  static void deleteLimits() {
    dueRangeLimits((x, from, to) -> x.delete(from, to));
  }

  @Holds(at = "Promise 24", says = {
      "Compacts the store to a revision (section 3).", "the revision, 1 or more",
      "Returns how many events are gone; COMPACTED if it is not greater than the compacted one; "
      + "FUTURE if it is greater than the present one."})
  static void compacts() {
    dueRefusal(FUTURE, WatchedKeys::new, x -> x.compact(2));
    due(0, new WatchedKeys().compact(1));
    dueRefusal(COMPACTED, () -> loaded("compact 1"), x -> x.compact(1));
    dueRefusal(FUTURE, () -> loaded("compact 1"), x -> x.compact(2));
    for (int revision : new int[] {1, 2, 3}) {
      dueRefusal(COMPACTED, StoreEdges::compacted, x -> x.compact(revision));
      dueRefusal(COMPACTED, Bench::rich, x -> x.compact(revision));
    }
    for (int revision : new int[] {9, 10, MOST}) {
      dueRefusal(FUTURE, StoreEdges::compacted, x -> x.compact(revision));
      dueRefusal(FUTURE, Bench::rich, x -> x.compact(revision));
    }
    dueRefusal(FUTURE, StoreEdges::compacted, x -> x.compact(7));
    due(1, compacted().compact(4));
    due(3, compacted().compact(6));
    WatchedKeys x = loaded("put1 1;put2 1;put3 1;del1 3;put4 1");
    due(6, x.compact(5));
    due("6 5 1 0 0 1 0 0 0 0", counts(x));
    due(1, x.compact(6));
    due("6 6 1 0 0 0 0 0 0 0", counts(x));
    dueRefusal(COMPACTED, () -> loaded("put1 1;compact 2"), y -> y.compact(2));
  }

  @Holds(at = "Promise 24", says = "Throws `IllegalArgumentException` if revision is less than 1")
  static void compactLimits() {
    dueLimits(1, MOST, (x, revision) -> x.compact(revision));
    dueRefusal(ILLEGAL, WatchedKeys::new, x -> x.compact(0));
  }

  @Holds(at = "Promise 25", says =
      "Makes the state of an earlier revision the present one again: keys that were not there "
      + "then are deleted, then those that were there and are not, or have another value, are "
      + "written without a lease, both in rising order, all in one revision (none passes if "
      + "nothing differs).")
  static void reverts() {
    WatchedKeys x = loaded("grant 9;put 5 50 1;put 3 30 1;put 8 80 1;del 5;put 3 31 1;put 9 90 1;"
        + "put 1 10");
    due(4, x.revert(4));
    due("9 0 3 1 0 11 0 0 0 0", counts(x));
    due("9 1 1 0 10 0", event(x, 7));
    due("9 1 9 0 90 1", event(x, 8));
    due("9 0 3 30 31 0", event(x, 9));
    due("9 0 5 50 " + NO_VALUE + " 0", event(x, 10));
    due("3 30 3 9 3 0", key(x, 3));
    due("5 50 9 9 1 0", key(x, 5));
    due("8 80 4 4 1 1", key(x, 8));
    due(0, x.revert(4));
    due(0, x.revert(9));
    x.attach(5, 1);
    x.attach(8, 0);
    due(0, x.revert(4));
    due(1, x.get(5, 4));
    due("9 0 3 1 0 11 0 0 0 0", counts(x));
    due(3, x.revert(1));
    due("10 0 0 1 0 14 0 0 0 0", counts(x));
    due(0, x.revert(1));
    due(10, x.count(0));
    due(4, x.revert(8));
    due("1 3 8 9", keys(x, 0));
    due("9 9 0", lease(x, 1));
  }

  @Holds(at = "Promise 25", says =
      "Returns how many events that makes; COMPACTED or FUTURE if the revision cannot be asked.")
  static void revertRefusals() {
    due(0, new WatchedKeys().revert(1));
    dueRefusal(FUTURE, WatchedKeys::new, x -> x.revert(2));
    for (int revision : new int[] {1, 2}) {
      dueRefusal(COMPACTED, StoreEdges::compacted, x -> x.revert(revision));
      dueRefusal(COMPACTED, Bench::rich, x -> x.revert(revision));
    }
    for (int revision : new int[] {9, 10, MOST}) {
      dueRefusal(FUTURE, StoreEdges::compacted, x -> x.revert(revision));
      dueRefusal(FUTURE, Bench::rich, x -> x.revert(revision));
    }
    due(2, compacted().revert(3));
    WatchedKeys y = filled(0, 16);
    y.delete(0, 999);
    fill(y, 100, 16);
    due(32, y.revert(17));
    due("35 0 16 0 0 80 0 0 0 0", counts(y));
    due("0 1 2 3 4 5 6 7 8 9 10 11 12 13 14 15", keys(y, 0));
  }

  @Holds(at = "Promise 25", says = {
      "1 or more", "Throws `IllegalArgumentException` if revision is less than 1"})
  static void revertLimits() {
    dueLimits(1, MOST, (x, revision) -> x.revert(revision));
    dueRefusal(ILLEGAL, WatchedKeys::new, x -> x.revert(0));
  }

  @Holds(at = "Promise 26", says = {
      "Gives a key another lease without writing it: no revision passes.",
      "the number of a lease; 0 for none", "Returns the lease that it had"})
  static void attaches() {
    WatchedKeys x = loaded("grant 5;grant 6;put 7 70 1;put 8 80");
    due(1, x.attach(7, 2));
    due("7 70 2 2 1 2", key(x, 7));
    due("5 5 0", lease(x, 1));
    due("6 6 1", lease(x, 2));
    due(2, x.attach(7, 2));
    due(2, x.attach(7, 0));
    due("7 70 2 2 1 0", key(x, 7));
    due(0, x.attach(7, 0));
    due(0, x.attach(8, 1));
    due("8 80 3 3 1 1", key(x, 8));
    due("3 0 2 2 0 2 0 0 0 0", counts(x));
    due("2 0 7 70 " + NO_VALUE + " 1", event(x, 0));
    due(1, x.revoke(1));
    due("7", keys(x, 0));
  }

  @Holds(at = "Promise 26", says =
      "NONE, and nothing changes, if there is no such key; NO_LEASE if there is no such lease.")
  static void attachRefusals() {
    for (int lease : new int[] {0, 1, 2, 3, MOST}) {
      dueRefusal(NONE, Bench::rich, x -> x.attach(6, lease));
      dueRefusal(NONE, Bench::rich, x -> x.attach(999, lease));
    }
    for (int lease : new int[] {3, 4, MOST}) {
      dueRefusal(NO_LEASE, Bench::rich, x -> x.attach(5, lease));
    }
    dueRefusal(NONE, WatchedKeys::new, x -> x.attach(0, 0));
    dueRefusal(NO_LEASE, () -> loaded("put 0 1"), x -> x.attach(0, 1));
    dueRefusal(NO_LEASE, () -> loaded("put 0 1;grant 1;revoke 1"), x -> x.attach(0, 1));
  }

  @Holds(at = "Promise 26", says = {
      "0 to 999", "Throws `IllegalArgumentException` if key is out of range, or lease is negative"})
  static void attachLimits() {
    dueLimits(0, 999, (x, key) -> x.attach(key, 0));
    dueLimits(0, MOST, (x, lease) -> x.attach(5, lease));
    dueIllegal(x -> x.attach(6, -1));
  }
}
