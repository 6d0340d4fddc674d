/** Section 5, and promises 46 to 52. */
final class TransactionEdges extends Bench {
  /** Key 5 has the value 50, the revisions 2 and 4, and the version 2. */
  private static WatchedKeys withFive() {
    return loaded("put 5 49;put 6 1;put 5 50");
  }

  private static boolean isTrue(WatchedKeys x, int key, int what, int relation, int number) {
    x.when(key, what, relation, number);
    boolean holds = x.holds() == NONE;
    due(holds ? NONE : 0, x.holds());
    return holds;
  }

  @Holds(at = "Section 5", says =
      "There is one transaction, which is put together by conditions and steps and done by "
      + "commit().")
  static void oneTransaction() {
    WatchedKeys x = withFive();
    x.when(5, 0, 0, 50);
    x.put(7, 7, 0);
    x.then(0, 8, 80);
    x.when(6, 0, 0, 1);
    x.otherwise(0, 9, 90);
    x.then(1, 6, 0);
    due("5 0 3 0 0 4 0 2 2 1", counts(x));
    due(1, x.commit());
    due("6 0 3 0 0 6 0 0 0 0", counts(x));
    due("5 7 8", keys(x, 0));
    due(1, x.when(5, 0, 0, 50));
    due(1, x.then(0, 8, 80));
    due(1, x.otherwise(0, 8, 80));
  }

  @Holds(at = "Section 5", says =
      "A condition compares the value of a key (it holds for no relation if there is no such "
      + "key), or a revision or the version of it, with a number.")
  static void conditions() {
    int[] numbers = {50, 2, 4, 2};
    for (int what = 0; what <= 3; what++) {
      for (int number = numbers[what] - 1; number <= numbers[what] + 1; number++) {
        due(numbers[what] == number, isTrue(withFive(), 5, what, 0, number));
        due(numbers[what] != number, isTrue(withFive(), 5, what, 1, number));
        due(numbers[what] < number, isTrue(withFive(), 5, what, 2, number));
        due(numbers[what] > number, isTrue(withFive(), 5, what, 3, number));
      }
    }
    for (int relation = 0; relation <= 3; relation++) {
      for (int number : new int[] {0, 1, -1, NO_VALUE, NO_VALUE + 1, LEAST, MOST}) {
        due(false, isTrue(withFive(), 7, 0, relation, number));
      }
      due(relation == 0, isTrue(loaded("put 0 0"), 0, 0, relation, 0));
    }
  }

  @Holds(at = "Section 5", says = "A step that deletes a key that is not there does nothing.")
  static void deletesNothing() {
    WatchedKeys x = withFive();
    x.then(1, 7, 0);
    due(0, x.wouldWrite());
    due(1, x.commit());
    due("4 0 2 0 0 3 0 0 0 0", counts(x));
    x.then(1, 7, 0);
    x.then(0, 8, 1);
    x.then(1, 9, 0);
    due(1, x.commit());
    due("5 0 3 0 0 4 0 0 0 0", counts(x));
  }

  @Holds(at = "Promise 46", says = {
      "Adds a condition to the transaction (section 5).",
      "0 its value, 1 to 3 as get() tells it (0 if there is no such key)",
      "0 equal, 1 unlike, 2 less, 3 greater", "the number with which it is compared"})
  static void whenNumbers() {
    for (int relation = 0; relation <= 3; relation++) {
      for (int what = 1; what <= 3; what++) {
        due(relation == 0, isTrue(withFive(), 7, what, relation, 0));
        due(relation == 1 || relation == 2, isTrue(withFive(), 7, what, relation, 1));
        due(relation == 1 || relation == 3, isTrue(withFive(), 7, what, relation, -1));
        due(relation == 1 || relation == 2, isTrue(withFive(), 5, what, relation, MOST));
        due(relation == 1 || relation == 3, isTrue(withFive(), 5, what, relation, LEAST));
      }
      due(relation == 1 || relation == 2, isTrue(loaded("put 5 -1000000"), 5, 0, relation, MOST));
      due(relation == 1 || relation == 3, isTrue(loaded("put 5 1000000"), 5, 0, relation, LEAST));
      due(relation == 1 || relation == 3, isTrue(loaded("put 5 5"), 5, 0, relation, -5));
    }
    WatchedKeys x = loaded("put 5 49;del 5;put 5 50");
    x.when(5, 1, 0, 4);
    x.when(5, 2, 0, 4);
    x.when(5, 3, 0, 1);
    due(NONE, x.holds());
    due(1, new WatchedKeys().when(0, 0, 0, 0));
  }

  @Holds(at = "Promise 46", says =
      "Returns how many conditions there are then; FULL if there are 6.")
  static void sixConditions() {
    WatchedKeys x = withFive();
    for (int i = 1; i <= 6; i++) {
      due(i, x.when(5, 0, 0, 50));
    }
    due(FULL, x.when(5, 0, 0, 51));
    due("4 0 2 0 0 3 0 6 0 0", counts(x));
    due(NONE, x.holds());
    due(6, x.drop());
    due(1, x.when(5, 0, 0, 51));
    dueRefusal(FULL, TransactionEdges::fullTransaction, y -> y.when(6, 0, 0, 7));
  }

  @Holds(at = "Promise 46", says = {
      "0 to 999", "Throws `IllegalArgumentException` if key, what or relation is out of range"})
  static void whenLimits() {
    dueLimits(0, 999, (y, key) -> y.when(key, 0, 0, 0));
    dueLimits(0, 3, (y, what) -> y.when(5, what, 0, 0));
    dueLimits(0, 3, (y, relation) -> y.when(5, 0, relation, 0));
    dueLimits(LEAST, MOST, (y, number) -> y.when(5, 0, 0, number));
  }

  /** Six conditions, six steps of each kind. */
  private static WatchedKeys fullTransaction() {
    WatchedKeys x = withFive();
    for (int i = 0; i < 6; i++) {
      x.when(5, 0, 0, 50);
      x.then(0, 10 + i, i);
      x.otherwise(1, 10 + i, i);
    }
    return x;
  }

  @Holds(at = "Promise 47", says = {
      "Adds a step for THEN to the transaction.", "0 writes the key, without a lease, 1 deletes it",
      "Returns how many such steps there are then; FULL if there are 6; TWICE if one of them is "
      + "of this key."})
  static void thenSteps() {
    WatchedKeys x = loaded("grant 5;put 5 5 1;put 6 6 1");
    due(1, x.then(0, 5, 50));
    due(2, x.then(1, 6, 60));
    due(TWICE, x.then(0, 5, 51));
    due(TWICE, x.then(1, 5, 51));
    due(TWICE, x.then(0, 6, 51));
    due(TWICE, x.then(1, 6, 51));
    due(3, x.then(0, 7, 70));
    due(TWICE, x.then(1, 7, 0));
    due(4, x.then(0, 8, 80));
    due(5, x.then(0, 9, 90));
    due(TWICE, x.then(0, 9, 90));
    due(6, x.then(0, 0, 1));
    due(FULL, x.then(0, 1, 1));
    due(FULL, x.then(0, 5, 1));
    due(FULL, x.then(1, 0, 1));
    due("3 0 2 1 0 2 0 0 6 0", counts(x));
    due(1, x.commit());
    due("0 5 7 8 9", keys(x, 0));
    due("5 50 2 4 2 0", key(x, 5));
    due(1, x.then(0, 5, 50));
    dueRefusal(FULL, TransactionEdges::fullTransaction, y -> y.then(0, 5, 1));
    dueRefusal(FULL, TransactionEdges::fullTransaction, y -> y.then(1, 10, 1));
    dueRefusal(TWICE, Bench::rich, y -> y.then(0, 8, 1));
    dueRefusal(TWICE, Bench::rich, y -> y.then(0, 5, 1));
    due(3, rich().then(0, 7, 1));
  }

  @Holds(at = "Promise 47", says = {
      "0 to 999", "-1000000 to 1000000 if it writes; any number otherwise",
      "Throws `IllegalArgumentException` if kind, key or value is out of range"})
  static void thenLimits() {
    dueLimits(0, 1, (x, kind) -> x.then(kind, 9, 0));
    dueLimits(0, 999, (x, key) -> x.then(0, key, 0));
    dueLimits(0, 999, (x, key) -> x.then(1, key, 0));
    dueLimits(-1000000, 1000000, (x, value) -> x.then(0, 9, value));
    dueLimits(LEAST, MOST, (x, value) -> x.then(1, 9, value));
    dueIllegal(x -> x.then(2, 9, LEAST));
    WatchedKeys x = new WatchedKeys();
    x.then(0, 1, -1000000);
    x.then(0, 2, 1000000);
    x.commit();
    due("-1000000 1000000", x.get(1, 0) + " " + x.get(2, 0));
  }

  @Holds(at = "Promise 48", says = {
      "Adds a step for ELSE to the transaction.", "0 writes the key, without a lease, 1 deletes it",
      "Returns how many such steps there are then; FULL if there are 6; TWICE if one of them is "
      + "of this key."})
  static void otherwiseSteps() {
    WatchedKeys x = loaded("grant 5;put 5 5 1;put 6 6 1");
    x.then(0, 5, 1);
    x.when(0, 0, 0, 0);
    due(1, x.otherwise(0, 5, 50));
    due(2, x.otherwise(1, 6, 60));
    due(TWICE, x.otherwise(0, 5, 51));
    due(TWICE, x.otherwise(1, 5, 51));
    due(TWICE, x.otherwise(0, 6, 51));
    due(TWICE, x.otherwise(1, 6, 51));
    due(3, x.otherwise(0, 7, 70));
    due(4, x.otherwise(0, 8, 80));
    due(5, x.otherwise(0, 9, 90));
    due(TWICE, x.otherwise(0, 9, 90));
    due(6, x.otherwise(0, 0, 1));
    due(FULL, x.otherwise(0, 1, 1));
    due(FULL, x.otherwise(0, 5, 1));
    due(FULL, x.otherwise(1, 0, 1));
    due("3 0 2 1 0 2 0 1 1 6", counts(x));
    due(2, x.then(0, 1, 1));
    due(0, x.commit());
    due("0 5 7 8 9", keys(x, 0));
    due("5 50 2 4 2 0", key(x, 5));
    due(1, x.otherwise(0, 5, 50));
    dueRefusal(FULL, TransactionEdges::fullTransaction, y -> y.otherwise(0, 5, 1));
    dueRefusal(FULL, TransactionEdges::fullTransaction, y -> y.otherwise(1, 10, 1));
    dueRefusal(TWICE, Bench::rich, y -> y.otherwise(0, 7, 1));
    due(2, rich().otherwise(0, 8, 1));
  }

  @Holds(at = "Promise 48", says = {
      "0 to 999", "-1000000 to 1000000 if it writes; any number otherwise",
      "Throws `IllegalArgumentException` if kind, key or value is out of range"})
  static void otherwiseLimits() {
    dueLimits(0, 1, (x, kind) -> x.otherwise(kind, 9, 0));
    dueLimits(0, 999, (x, key) -> x.otherwise(0, key, 0));
    dueLimits(0, 999, (x, key) -> x.otherwise(1, key, 0));
    dueLimits(-1000000, 1000000, (x, value) -> x.otherwise(0, 9, value));
    dueLimits(LEAST, MOST, (x, value) -> x.otherwise(1, 9, value));
    dueIllegal(x -> x.otherwise(2, 9, LEAST));
    WatchedKeys x = new WatchedKeys();
    x.when(0, 0, 0, 0);
    x.otherwise(0, 1, -1000000);
    x.otherwise(0, 2, 1000000);
    x.commit();
    due("-1000000 1000000", x.get(1, 0) + " " + x.get(2, 0));
  }

  @Holds(at = "Promise 49", says = {
      "Returns which condition of the transaction does not hold now.",
      "Returns the index of the first such condition, from 0; NONE if all hold."})
  static void firstFailing() {
    due(NONE, new WatchedKeys().holds());
    WatchedKeys x = withFive();
    x.when(5, 0, 0, 50);
    x.when(6, 0, 0, 1);
    x.when(5, 3, 2, 3);
    x.when(7, 3, 0, 0);
    x.when(5, 0, 1, 6);
    x.when(6, 0, 3, 0);
    due(NONE, x.holds());
    x.put(6, 0, 0);
    due(1, x.holds());
    x.put(6, 1, 0);
    due(NONE, x.holds());
    x.put(6, -1, 0);
    x.put(5, 50, 0);
    due(1, x.holds());
    x.put(6, 1, 0);
    due(2, x.holds());
    x.delete(5, 5);
    due(0, x.holds());
    x.put(5, 50, 0);
    x.put(7, 7, 0);
    due(3, x.holds());
    x.delete(7, 7);
    due(NONE, x.holds());
    x.drop();
    x.when(6, 0, 0, 1);
    x.when(6, 0, 0, 1);
    x.when(6, 0, 0, 1);
    x.when(6, 0, 0, 1);
    x.when(6, 0, 0, 1);
    x.when(6, 0, 0, 2);
    due(5, x.holds());
  }

  @Holds(at = "Promise 50", says = {
      "Predicts how many events commit() would make now, whatever the number of keys.",
      "Returns the number."})
  static void predictsEvents() {
    due(0, new WatchedKeys().wouldWrite());
    WatchedKeys x = withFive();
    x.when(7, 3, 0, 0);
    x.then(0, 5, 50);
    x.then(0, 8, 1);
    x.then(1, 6, 1);
    x.then(1, 9, 1);
    x.otherwise(1, 7, 1);
    x.otherwise(1, 8, 1);
    due(3, x.wouldWrite());
    x.put(7, 1, 0);
    due(1, x.wouldWrite());
    x.put(8, 1, 0);
    due(2, x.wouldWrite());
    x.delete(6, 8);
    due(2, x.wouldWrite());
    int events = x.count(5);
    x.commit();
    due(events + 2, x.count(5));
    WatchedKeys y = filled(0, 16);
    for (int key = 100; key < 106; key++) {
      y.then(0, key, 1);
    }
    due(6, y.wouldWrite());
    due(FULL, y.commit());
    due(6, y.wouldWrite());
    y.delete(0, 5);
    due(6, y.wouldWrite());
    due(1, y.commit());
    dueRefusal(2, Bench::rich, z -> z.wouldWrite() + 1);
  }

  @Holds(at = "Promise 51", says = {
      "Does the transaction: if all conditions hold, the steps for THEN, otherwise those for "
      + "ELSE, one by one, in one revision (none passes if nothing is written and no key was "
      + "there to be deleted).", "The transaction is empty then.",
      "Returns 1 if all conditions held, otherwise 0"})
  static void commits() {
    WatchedKeys x = withFive();
    due(1, x.commit());
    due("4 0 2 0 0 3 0 0 0 0", counts(x));
    x.when(5, 0, 0, 51);
    due(0, x.commit());
    due("4 0 2 0 0 3 0 0 0 0", counts(x));
    x.when(5, 0, 0, 50);
    x.when(6, 0, 0, 1);
    x.then(0, 9, 90);
    x.then(1, 6, 0);
    x.then(0, 5, 50);
    x.then(1, 4, 0);
    x.then(0, 3, 30);
    x.otherwise(1, 5, 0);
    due(1, x.commit());
    due("5 0 3 0 0 7 0 0 0 0", counts(x));
    due("5 0 9 90 " + NO_VALUE + " 0", event(x, 3));
    due("5 1 6 0 1 0", event(x, 4));
    due("5 0 5 50 50 0", event(x, 5));
    due("5 0 3 30 " + NO_VALUE + " 0", event(x, 6));
    x.when(5, 0, 0, 50);
    x.when(6, 0, 0, 1);
    x.then(0, 1, 1);
    x.otherwise(1, 9, 0);
    x.otherwise(0, 6, 2);
    due(0, x.commit());
    due("6 0 3 0 0 9 0 0 0 0", counts(x));
    due("3 5 6", keys(x, 0));
    x.when(5, 0, 0, 50);
    x.otherwise(0, 1, 1);
    due(1, x.commit());
    x.then(1, 700, 0);
    due(1, x.commit());
    x.when(1, 0, 0, 0);
    x.then(0, 1, 1);
    x.otherwise(1, 700, 0);
    due(0, x.commit());
    due("6 0 3 0 0 9 0 0 0 0", counts(x));
  }

  @Holds(at = "Promise 51", says =
      "FULL, and the transaction stays, if there would be more than 16 keys behind its steps.")
  static void commitRefusals() {
    dueRefusal(FULL, () -> withSteps(16, 1, 0, false), x -> x.commit());
    dueRefusal(FULL, () -> withSteps(15, 2, 0, false), x -> x.commit());
    dueRefusal(FULL, () -> withSteps(11, 6, 0, false), x -> x.commit());
    dueRefusal(FULL, () -> withSteps(16, 2, 1, false), x -> x.commit());
    dueRefusal(FULL, () -> withSteps(16, 4, 2, true), x -> x.commit());
    dueRefusal(FULL, () -> withSteps(16, 1, 0, true), x -> x.commit());
    int[][] right = {{15, 1, 0}, {10, 6, 0}, {16, 1, 1}, {16, 3, 3}, {16, 2, 3}, {16, 0, 2}, {14, 4, 2}};
    for (int[] one : right) {
      for (boolean ofElse : new boolean[] {false, true}) {
        WatchedKeys x = withSteps(one[0], one[1], one[2], ofElse);
        due(ofElse ? 0 : 1, x.commit());
        due(one[0] + one[1] - one[2], x.count(2));
        due(one[0] + 2, x.count(0));
        due(0, x.drop());
      }
    }
    WatchedKeys x = withSteps(16, 1, 0, false);
    due(FULL, x.commit());
    due("17 0 16 0 0 16 0 0 1 1", counts(x));
    x.when(0, 0, 0, 5);
    due(0, x.commit());
    due("18 0 15 0 0 17 0 0 0 0", counts(x));
    x = filled(0, 16);
    x.then(1, 500, 0);
    x.then(0, 600, 0);
    due(FULL, x.commit());
    x.then(1, 0, 0);
    due(1, x.commit());
    x = filled(0, 16);
    x.then(0, 3, 0);
    x.then(0, 15, 0);
    x.then(0, 500, 0);
    due(FULL, x.commit());
    due(3, x.drop());
    x.then(0, 3, 0);
    due(1, x.commit());
    x.then(0, 3, 0);
    x.then(0, 15, 0);
    due(1, x.commit());
    due(16, x.count(2));
  }

  /** A number of keys, and as many steps that write others, then that delete some of them. */
  private static WatchedKeys withSteps(int keys, int more, int less, boolean ofElse) {
    WatchedKeys x = filled(0, keys);
    if (ofElse) {
      x.when(0, 0, 1, 0);
    }
    for (int i = 0; i < more; i++) {
      due(i + 1, ofElse ? x.otherwise(0, 900 + i, 0) : x.then(0, 900 + i, 0));
    }
    for (int i = 0; i < less; i++) {
      due(more + i + 1, ofElse ? x.otherwise(1, i, 0) : x.then(1, i, 0));
    }
    due(1, ofElse ? x.then(1, 7, 0) : x.otherwise(1, 7, 0));
    return x;
  }

  @Holds(at = "Promise 52", says = {
      "Empties the transaction.", "Returns how many conditions and steps it had."})
  static void drops() {
    WatchedKeys x = new WatchedKeys();
    due(0, x.drop());
    x = fullTransaction();
    due(18, x.drop());
    due("4 0 2 0 0 3 0 0 0 0", counts(x));
    due(0, x.drop());
    due(NONE, x.holds());
    due(0, x.wouldWrite());
    due(1, x.then(0, 10, 0));
    due(1, x.otherwise(0, 10, 0));
    due(2, x.drop());
    x.when(0, 0, 0, 0);
    due(1, x.drop());
    x.otherwise(0, 1, 1);
    due(1, x.drop());
    due(1, x.commit());
    due(4, x.count(0));
    due(5, rich().drop());
  }
}
