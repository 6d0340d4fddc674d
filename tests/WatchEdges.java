/** Section 4, and promises 27 to 38. */
final class WatchEdges extends Bench {
  private static final String OUTSIDE_WATCH =
      "Throws `IndexOutOfBoundsException` if there is no such watch";

  /** Revisions: 2 writes 5, 3 writes 6, 4 writes 5 again, 5 deletes 6, 6 writes 6 anew. */
  private static WatchedKeys withHistory() {
    return loaded("put 5 50;put 6 60;put 5 51;del 6;put 6 61");
  }

  /** A store with eight watches. */
  private static WatchedKeys withEight() {
    WatchedKeys x = withHistory();
    for (int watch = 0; watch < 8; watch++) {
      due(watch, x.watch(watch, watch + 1, 1, watch % 3));
    }
    return x;
  }

  @Holds(at = "Section 4", says =
      "A watch sees the events of the keys from FROM to TO, of its kinds, of its first revision "
      + "and later ones.")
  static void seenEvents() {
    String[] ranges = {"2 3 4 5 6 -1", "3 5 6 -1", "2 4 -1", "-1", "-1"};
    int[][] keys = {{5, 6}, {6, 999}, {0, 5}, {0, 4}, {7, 999}};
    for (int i = 0; i < keys.length; i++) {
      WatchedKeys x = withHistory();
      x.watch(keys[i][0], keys[i][1], 1, 0);
      due(ranges[i], takeAll(x, 0));
    }
    String[] kinds = {"2 3 4 5 6 -1", "2 3 4 6 -1", "5 -1"};
    String[] starts = {"-1", "2 3 4 5 6 -1", "2 3 4 5 6 -1", "3 4 5 6 -1", "4 5 6 -1", "5 6 -1",
        "6 -1", "-1"};
    for (int kind = 0; kind <= 2; kind++) {
      WatchedKeys x = withHistory();
      x.watch(0, 999, 1, kind);
      due(kinds[kind], takeAll(x, 0));
    }
    for (int start = 0; start <= 7; start++) {
      WatchedKeys x = withHistory();
      x.watch(0, 999, start, 0);
      due(starts[start], takeAll(x, 0));
      x.put(0, 0, 0);
      x.put(999, 0, 0);
      x.delete(0, 999);
      due("7 8 9 9 9 9 -1", takeAll(x, 0));
    }
  }

  @Holds(at = "Section 4", says =
      "Such an event waits for the watch until it takes it, in the order of the events.")
  static void takenInOrder() {
    WatchedKeys x = loaded("watch 3 6;watch 3 6;put9 1;put4 1;put3 1;put6 1;put5 1;put2 1;del0 9");
    due("3 4 5 6 8 8 8 8 -1", takeAll(x, 0));
    int[] keys = {4, 3, 6, 5, 3, 4, 5, 6};
    for (int i = 0; i < keys.length; i++) {
      due(keys.length - i, x.watchValue(1, 3));
      due(i < 4 ? 3 + i : 8, x.take(1));
      due(keys[i], x.taken(1, 2));
    }
    due(NONE, x.take(1));
    due(8, x.watchValue(1, 4));
    due(NONE, x.take(0));
  }

  @Holds(at = "Section 4", says =
      "An event that waits for a watch and is gone by compaction was missed by it.")
  static void missedEvents() {
    WatchedKeys x = withHistory();
    x.watch(5, 6, 1, 0);
    x.watch(5, 6, 4, 0);
    x.watch(5, 6, 1, 2);
    x.watch(5, 5, 1, 0);
    x.watch(7, 9, 1, 0);
    x.watch(5, 6, 1, 0);
    x.take(3);
    x.take(5);
    x.take(5);
    x.take(5);
    x.compact(4);
    int[] missed = {3, 1, 0, 1, 0, 0};
    int[] waiting = {2, 2, 1, 0, 0, 2};
    for (int i = 0; i < 6; i++) {
      due(i + " " + missed[i] + " " + waiting[i],
          i + " " + x.watchValue(i, 6) + " " + x.watchValue(i, 3));
    }
    x.compact(5);
    x.compact(6);
    int[] later = {5, 3, 1, 1, 0, 2};
    for (int i = 0; i < 6; i++) {
      due(i + " " + later[i] + " 0", i + " " + x.watchValue(i, 6) + " " + x.watchValue(i, 3));
    }
    WatchedKeys y = new WatchedKeys();
    y.watch(500, 500, 0, 0);
    for (int i = 0; i < 120; i++) {
      y.put(500, i, 0);
    }
    due("500 500 0 120 0 1 0", watch(y, 0));
    y.put(501, 0, 0);
    due("500 500 0 119 0 2 1", watch(y, 0));
    y.delete(0, 999);
    due("500 500 0 118 0 2 3", watch(y, 0));
  }

  @Holds(at = "Section 4", says =
      "When something was missed that a watch was not told, it takes nothing until it is told "
      + "(admit(int)).")
  static void takesNothingUntilTold() {
    WatchedKeys x = withHistory();
    x.watch(5, 6, 1, 0);
    x.compact(2);
    due(MISSED, x.take(0));
    x.put(5, 1, 0);
    due(MISSED, x.take(0));
    due("5 6 0 5 0 2 1", watch(x, 0));
    due(1, x.admit(0));
    due(3, x.take(0));
    x.compact(6);
    due(MISSED, x.take(0));
    due(3, x.admit(0));
    due("7 -1", takeAll(x, 0));
    due(2, x.watchValue(0, 4));
  }

  @Holds(at = "Section 4", says =
      "A watch that begins at a compacted revision has missed nothing by that.")
  static void beginsCompacted() {
    WatchedKeys x = withHistory();
    x.compact(4);
    for (int start = 1; start <= 5; start++) {
      due(start - 1, x.watch(0, 999, start, 0));
      due("0 999 0 2 0 1 0", watch(x, start - 1));
    }
    due("5 6 -1", takeAll(x, 0));
    x.compact(6);
    due(0, x.watchValue(0, 6));
    due(2, x.watchValue(1, 6));
    due(0, x.rewatch(1, 1));
    due("0 999 0 0 0 0 0", watch(x, 1));
  }

  @Holds(at = "Promise 27", says = {
      "Begins to watch a range (section 4).",
      "the first revision whose events it sees; 0 for the one behind the present one",
      "0 all events, 1 those that write, 2 those that delete", "Returns its number"})
  static void watches() {
    WatchedKeys x = withHistory();
    due(0, x.watch(5, 6, 0, 0));
    due(1, x.watch(5, 6, 6, 0));
    due(2, x.watch(5, 6, 7, 0));
    due(3, x.watch(5, 6, 1, 1));
    due(4, x.watch(5, 6, 1, 2));
    due(5, x.watch(5, 6, 1, 0));
    due("5 6 0 0 0 0 0", watch(x, 0));
    due("5 6 0 1 0 1 0", watch(x, 1));
    due("5 6 0 0 0 0 0", watch(x, 2));
    due("5 6 1 4 0 1 0", watch(x, 3));
    due("5 6 2 1 0 1 0", watch(x, 4));
    due("5 6 0 5 0 1 0", watch(x, 5));
    x.delete(5, 6);
    int[] waiting = {2, 3, 2, 4, 3, 7};
    for (int i = 0; i < 6; i++) {
      due(i + " " + waiting[i], i + " " + x.watchValue(i, 3));
    }
    due(0, new WatchedKeys().watch(0, 0, 1, 0));
    due(5, x.unwatch(2));
    due(5, x.watch(0, 999, 0, 0));
    due("0 999 0 0 0 0 0", watch(x, 5));
  }

  @Holds(at = "Promise 27", says =
      "FULL if there are 8; FUTURE if start is greater than the present revision and 1; a start "
      + "that is compacted is no error: it sees what is kept.")
  static void watchRefusals() {
    dueRefusal(FULL, WatchEdges::withEight, x -> x.watch(0, 999, 1, 0));
    dueRefusal(FULL, WatchEdges::withEight, x -> x.watch(0, 999, 0, 2));
    WatchedKeys x = withEight();
    x.unwatch(3);
    due(7, x.watch(0, 999, 1, 0));
    due(FULL, x.watch(0, 999, 1, 0));
    for (int start : new int[] {10, 11, MOST}) {
      dueRefusal(FUTURE, Bench::rich, y -> y.watch(0, 999, start, 0));
    }
    due(2, rich().watch(0, 999, 9, 0));
    due(0, new WatchedKeys().watch(0, 9, 2, 0));
    dueRefusal(FUTURE, WatchedKeys::new, y -> y.watch(0, 9, 3, 0));
    WatchedKeys z = rich();
    for (int start = 1; start <= 4; start++) {
      due(1 + start, z.watch(0, 999, start, 0));
      due("0 999 0 5 0 1 0", watch(z, 1 + start));
    }
  }

  @Holds(at = "Promise 27", says = {
      "0 to to", "0 to 999",
      "Throws `IllegalArgumentException` if from, to or kinds is out of range, or start is "
      + "negative"})
  static void watchLimits() {
    dueRangeLimits((x, from, to) -> x.watch(from, to, 0, 0));
    dueLimits(0, MOST, (x, start) -> x.watch(0, 9, start, 0));
    dueLimits(0, 2, (x, kinds) -> x.watch(0, 9, 0, kinds));
  }

  @Holds(at = "Promise 28", says = {
      "Returns a number of a watch.", "a watch",
      "0 FROM, 1 TO, 2 the kinds, 3 how many events wait for it, 4 how many it has taken, 5 its "
      + "state: 0 nothing waits, 1 some event waits, 2 it has missed something; 6 how many events "
      + "it has missed that it was not told", "Returns the number."})
  static void numbersOfWatches() {
    WatchedKeys x = withHistory();
    x.watch(5, 6, 1, 1);
    x.watch(0, 999, 0, 2);
    due("5 6 1 4 0 1 0", watch(x, 0));
    due("0 999 2 0 0 0 0", watch(x, 1));
    x.take(0);
    due("5 6 1 3 1 1 0", watch(x, 0));
    x.compact(2);
    due("5 6 1 3 1 1 0", watch(x, 0));
    x.compact(3);
    due("5 6 1 2 1 2 1", watch(x, 0));
    x.compact(6);
    due("5 6 1 0 1 2 3", watch(x, 0));
    x.admit(0);
    due("5 6 1 0 1 0 0", watch(x, 0));
    x.delete(5, 5);
    due("5 6 1 0 1 0 0", watch(x, 0));
    due("0 999 2 1 0 1 0", watch(x, 1));
    x.take(1);
    due("0 999 2 0 1 0 0", watch(x, 1));
  }

  @Holds(at = "Promise 28", says = "Throws `IllegalArgumentException` if what is out of range")
  static void watchValueNumberLimits() {
    dueLimits(0, 6, (x, what) -> x.watchValue(0, what));
    dueLimits(0, 6, (x, what) -> x.watchValue(1, what));
  }

  @Holds(at = "Promise 28", says = OUTSIDE_WATCH)
  static void watchValueLimits() {
    dueWatchLimits((x, watch) -> x.watchValue(watch, 0));
    dueOutside(x -> x.watchValue(2, 7));
    dueOutside(x -> x.watchValue(-1, -1));
  }

  @Holds(at = "Promise 29", says = {
      "Takes the earliest event that waits for a watch.", "a watch",
      "Returns its revision; NONE if none waits"})
  static void takes() {
    WatchedKeys x = withHistory();
    x.watch(6, 6, 1, 0);
    x.watch(6, 6, 1, 1);
    x.watch(7, 7, 1, 0);
    due(3, x.take(0));
    due(5, x.take(0));
    due(6, x.take(0));
    due(NONE, x.take(0));
    due(NONE, x.take(0));
    due(3, x.watchValue(0, 4));
    due(3, x.take(1));
    due(6, x.take(1));
    due(NONE, x.take(1));
    due(NONE, x.take(2));
    due(0, x.watchValue(2, 4));
    x.put(6, 1, 0);
    due(7, x.take(0));
    x.compact(7);
    due(NONE, x.take(0));
    due(MISSED, x.take(1));
  }

  @Holds(at = "Promise 29", says =
      "MISSED, and nothing is taken, if it has missed something that it was not told.")
  static void takeRefusals() {
    dueRefusal(MISSED, Bench::rich, x -> x.take(0));
    dueRefusal(MISSED, () -> loaded("put 5 1;watch 0 9 1;compact 2"), x -> x.take(0));
    dueRefusal(MISSED, () -> loaded("put 5 1;watch 0 9 1;compact 2;put 5 2"), x -> x.take(0));
    due(5, rich().take(1));
    due(NONE, loaded("put 5 1;watch 6 9 1;compact 2").take(0));
  }

  @Holds(at = "Promise 29", says = OUTSIDE_WATCH)
  static void takeLimits() {
    dueWatchLimits((x, watch) -> x.take(watch));
  }

  @Holds(at = "Promise 30", says = {
      "Returns a number of the event that a watch took last.", "a watch", "as event() tells it",
      "Returns the number; NO_VALUE if it took none so far."})
  static void takenEvents() {
    String none = NO_VALUE + (" " + NO_VALUE).repeat(5);
    WatchedKeys x = loaded("grant 9;put 5 50 1;put 5 51;attach 5 1;del 5;watch 0 9 1;watch 0 9 1;"
        + "watch 0 4 1");
    due(none, taken(x, 0));
    x.take(0);
    due("2 0 5 50 " + NO_VALUE + " 1", taken(x, 0));
    due(none, taken(x, 1));
    x.take(0);
    due("3 0 5 51 50 0", taken(x, 0));
    x.take(0);
    due("4 1 5 0 51 1", taken(x, 0));
    x.take(0);
    x.compact(4);
    due("4 1 5 0 51 1", taken(x, 0));
    due(MISSED, x.take(1));
    due(none, taken(x, 1));
    x.admit(1);
    due(none, taken(x, 1));
    x.take(2);
    due(none, taken(x, 2));
    x.rewatch(0, 0);
    due("4 1 5 0 51 1", taken(x, 0));
    x.put(5, 7, 0);
    due("4 1 5 0 51 1", taken(x, 0));
    x.unwatch(0);
    due(none, taken(x, 0));
    x.unwatch(0);
    x.unwatch(0);
    x.watch(0, 9, 0, 0);
    due(none, taken(x, 0));
  }

  @Holds(at = "Promise 30", says = "Throws `IllegalArgumentException` if what is out of range")
  static void takenNumberLimits() {
    dueLimits(0, 5, (x, what) -> x.taken(0, what));
    dueLimits(0, 5, (x, what) -> x.taken(1, what));
  }

  @Holds(at = "Promise 30", says = OUTSIDE_WATCH)
  static void takenLimits() {
    dueWatchLimits((x, watch) -> x.taken(watch, 0));
    dueOutside(x -> x.taken(2, 6));
    dueOutside(x -> x.taken(-1, -1));
  }

  @Holds(at = "Promise 31", says = {
      "Tells a watch what it missed: how many events; it goes on with those that are kept.",
      "a watch", "Returns how many it had missed that it was not told."})
  static void admits() {
    WatchedKeys x = withHistory();
    x.watch(5, 6, 1, 0);
    x.watch(5, 6, 0, 0);
    due(0, x.admit(0));
    due(0, x.admit(1));
    x.compact(2);
    x.compact(4);
    due(3, x.admit(0));
    due("5 6 0 2 0 1 0", watch(x, 0));
    due(0, x.admit(0));
    due(0, x.admit(1));
    due(5, x.take(0));
    x.compact(6);
    due(1, x.admit(0));
    due(0, x.admit(0));
    due(NONE, x.take(0));
    x.put(5, 1, 0);
    due(7, x.take(0));
    due(2, x.watchValue(0, 4));
  }

  @Holds(at = "Promise 31", says = OUTSIDE_WATCH)
  static void admitLimits() {
    dueWatchLimits((x, watch) -> x.admit(watch));
  }

  @Holds(at = "Promise 32", says = {
      "Lets a watch begin anew: what it missed and was not told is forgotten, and events wait for "
      + "it as for a new watch, also those that it took already; the number of those that it took "
      + "stays.", "as for watch()", "Returns how many events wait for it then"})
  static void rewatches() {
    for (int start = 0; start <= 7; start++) {
      WatchedKeys x = withHistory();
      x.watch(5, 6, 1, 0);
      x.take(0);
      x.take(0);
      int waits = start == 0 ? 0 : start == 1 ? 5 : 7 - start;
      due(waits, x.rewatch(0, start));
      due("5 6 0 " + waits + " 2 " + (waits > 0 ? 1 : 0) + " 0", watch(x, 0));
      due(3, x.taken(0, 0));
      x.put(6, 1, 0);
      due(waits + 1, x.watchValue(0, 3));
    }
    for (int start = 0; start <= 7; start++) {
      WatchedKeys x = withHistory();
      x.watch(5, 6, 1, 0);
      x.compact(4);
      int waits = start == 0 ? 0 : start <= 5 ? 2 : 7 - start;
      due(waits, x.rewatch(0, start));
      due("5 6 0 " + waits + " 0 " + (waits > 0 ? 1 : 0) + " 0", watch(x, 0));
      due(0, x.admit(0));
    }
    WatchedKeys y = withHistory();
    y.watch(5, 5, 0, 1);
    y.watch(6, 6, 0, 2);
    due(2, y.rewatch(0, 1));
    due(1, y.rewatch(1, 1));
    due(5, y.take(1));
    due(1, y.rewatch(1, 5));
    due(0, y.rewatch(1, 6));
    due("6 6 2 0 1 0 0", watch(y, 1));
  }

  @Holds(at = "Promise 32", says = "FUTURE if start is greater than the present revision and 1.")
  static void rewatchRefusals() {
    for (int start : new int[] {10, 11, MOST}) {
      dueRefusal(FUTURE, Bench::rich, x -> x.rewatch(0, start));
      dueRefusal(FUTURE, Bench::rich, x -> x.rewatch(1, start));
    }
    due(0, rich().rewatch(0, 9));
    dueRefusal(FUTURE, () -> loaded("watch 0 1"), x -> x.rewatch(0, 3));
    due(0, loaded("watch 0 1").rewatch(0, 2));
  }

  @Holds(at = "Promise 32", says = "Throws `IllegalArgumentException` if start is negative")
  static void rewatchStartLimits() {
    dueLimits(0, MOST, (x, start) -> x.rewatch(0, start));
  }

  @Holds(at = "Promise 32", says = OUTSIDE_WATCH)
  static void rewatchLimits() {
    dueWatchLimits((x, watch) -> x.rewatch(watch, 0));
    dueOutside(x -> x.rewatch(2, -1));
    dueOutside(x -> x.rewatch(-1, -1));
    dueOutside(x -> x.rewatch(2, 99));
  }

  @Holds(at = "Promise 33", says = {
      "Ends a watch; those behind it count one less.", "a watch",
      "Returns how many there are then."})
  static void unwatches() {
    for (int gone = 0; gone < 8; gone++) {
      WatchedKeys x = withEight();
      x.take(5);
      String[] before = new String[8];
      for (int watch = 0; watch < 8; watch++) {
        before[watch] = watch(x, watch) + " " + x.taken(watch, 0);
      }
      due(7, x.unwatch(gone));
      due(7, x.count(4));
      for (int watch = 0; watch < 7; watch++) {
        due(before[watch < gone ? watch : watch + 1], watch(x, watch) + " " + x.taken(watch, 0));
      }
      due(OUTSIDE, answerOf(() -> x.watchValue(7, 0)));
      due(7, x.watch(100, 200, 0, 0));
      due("100 200 0 0 0 0 0", watch(x, 7));
      for (int watch = 0; watch < 7; watch++) {
        due(before[watch < gone ? watch : watch + 1], watch(x, watch) + " " + x.taken(watch, 0));
      }
    }
    WatchedKeys x = loaded("watch 1 1");
    due(0, x.unwatch(0));
    due(OUTSIDE, answerOf(() -> x.unwatch(0)));
  }

  @Holds(at = "Promise 33", says = OUTSIDE_WATCH)
  static void unwatchLimits() {
    dueWatchLimits((x, watch) -> x.unwatch(watch));
    dueRefusal(OUTSIDE, WatchEdges::withEight, x -> x.unwatch(8));
    due(7, withEight().unwatch(7));
  }

  @Holds(at = "Promise 34", says = {
      "Returns the greatest revision to which the store could be compacted without an event that "
      + "waits for a watch being gone: the revision of the earliest event that waits, less 1.",
      "Returns the revision (it can be the compacted one); the present one if none waits."})
  static void safeRevision() {
    due(1, new WatchedKeys().safe());
    WatchedKeys x = withHistory();
    due(6, x.safe());
    x.watch(7, 7, 1, 0);
    due(6, x.safe());
    x.watch(6, 6, 1, 0);
    due(2, x.safe());
    x.watch(5, 5, 1, 0);
    due(1, x.safe());
    x.compact(1);
    due(1, x.safe());
    x.take(2);
    due(2, x.safe());
    x.compact(2);
    due(2, x.safe());
    x.take(1);
    due(3, x.safe());
    x.compact(4);
    due(4, x.safe());
    x.admit(2);
    x.take(1);
    due(5, x.safe());
    x.take(1);
    due(6, x.safe());
    x.put(6, 1, 0);
    due(6, x.safe());
    x.take(1);
    due(7, x.safe());
    WatchedKeys missing = withHistory();
    missing.watch(5, 6, 1, 0);
    missing.compact(2);
    due(2, missing.safe());
    missing.compact(4);
    due(MISSED, missing.take(0));
    due(4, missing.safe());
    missing.compact(6);
    due(6, missing.safe());
    for (int goal = 1; goal <= 6; goal++) {
      WatchedKeys y = withHistory();
      y.watch(6, 6, 4, 0);
      int safe = y.safe();
      y.compact(goal);
      due(goal <= safe ? 0 : goal - safe, y.watchValue(0, 6));
    }
  }

  @Holds(at = "Promise 35", says = {
      "Predicts how many watches would miss events that wait for them if the store was compacted "
      + "to a revision.", "(one that is yet to come: as the present one)", "Returns the number."})
  static void missingWatches() {
    WatchedKeys x = withHistory();
    due(0, x.missing(MOST));
    x.watch(6, 6, 1, 0);
    x.watch(5, 5, 1, 0);
    x.watch(7, 7, 1, 0);
    x.watch(0, 999, 0, 0);
    x.watch(5, 6, 6, 0);
    int[] due = {0, 0, 1, 2, 2, 2, 3, 3, 3};
    for (int revision = 0; revision <= 8; revision++) {
      due(revision + " " + due[revision], revision + " " + x.missing(revision));
    }
    due(3, x.missing(MOST));
    x.take(1);
    due("0 1 2", x.missing(2) + " " + x.missing(3) + " " + x.missing(4));
    x.take(1);
    due("1 1 2", x.missing(4) + " " + x.missing(5) + " " + x.missing(6));
    x.compact(4);
    due("0 0 1 2", x.missing(3) + " " + x.missing(4) + " " + x.missing(5) + " " + x.missing(6));
    x.compact(6);
    due(0, x.missing(MOST));
    dueRefusal(1, Bench::rich, y -> y.missing(4));
    dueRefusal(2, Bench::rich, y -> y.missing(MOST));
  }

  @Holds(at = "Promise 35", says = {
      "a revision, 0 or more", "Throws `IllegalArgumentException` if revision is negative"})
  static void missingLimits() {
    dueLimits(0, MOST, (x, revision) -> x.missing(revision));
    dueRefusal(ILLEGAL, WatchedKeys::new, x -> x.missing(-1));
  }

  @Holds(at = "Promise 36", says = {
      "Returns the watch for which the most events wait.",
      "Returns the watch, of several the first one; NONE if no event waits."})
  static void slowestWatch() {
    WatchedKeys x = withHistory();
    due(NONE, x.slowest());
    x.watch(7, 7, 1, 0);
    due(NONE, x.slowest());
    x.watch(5, 5, 1, 0);
    due(1, x.slowest());
    x.watch(6, 6, 1, 0);
    x.watch(6, 6, 1, 0);
    due(2, x.slowest());
    x.take(2);
    due(3, x.slowest());
    x.take(3);
    due(1, x.slowest());
    x.unwatch(0);
    due(0, x.slowest());
    x.take(0);
    due(1, x.slowest());
    x.compact(6);
    due(NONE, x.slowest());
    due(1, loaded("watch 1 1;watch 0 9;put 1 1;put 2 1").slowest());
    due(0, loaded("watch 1 2;watch 0 9;put 1 1;put 2 1").slowest());
    due(0, loaded("watch 0 9;watch 1 1;put 1 1;put 2 1").slowest());
    due(1, loaded("watch 1 1;watch 0 9;watch 1 2;watch 1 1;put 1 1;put 2 1;put 3 1").slowest());
  }

  @Holds(at = "Promise 37", says = {
      "Returns how many revisions a watch is behind: the present one less that of the earliest "
      + "event that waits for it, and 1 more.", "a watch", "Returns the number; 0 if none waits."})
  static void behindOfWatches() {
    WatchedKeys x = withHistory();
    x.watch(5, 5, 1, 0);
    x.watch(6, 6, 1, 2);
    x.watch(6, 6, 0, 0);
    x.watch(6, 6, 6, 0);
    due("5 2 0 1", x.behind(0) + " " + x.behind(1) + " " + x.behind(2) + " " + x.behind(3));
    x.put(6, 1, 0);
    due("6 3 1 2", x.behind(0) + " " + x.behind(1) + " " + x.behind(2) + " " + x.behind(3));
    x.take(0);
    x.take(3);
    due("4 3 1 1", x.behind(0) + " " + x.behind(1) + " " + x.behind(2) + " " + x.behind(3));
    x.compact(4);
    due("0 3 1 1", x.behind(0) + " " + x.behind(1) + " " + x.behind(2) + " " + x.behind(3));
    x.compact(7);
    due("0 0 0 0", x.behind(0) + " " + x.behind(1) + " " + x.behind(2) + " " + x.behind(3));
  }

  @Holds(at = "Promise 37", says = OUTSIDE_WATCH)
  static void behindLimits() {
    dueWatchLimits((x, watch) -> x.behind(watch));
  }

  @Holds(at = "Promise 38", says = {
      "Returns how many events wait for a watch on the average.",
      "Returns (float) (the sum over all watches) / (float) (watches); 0.0f without any."})
  static void meanLag() {
    due(0.0f, new WatchedKeys().meanLag());
    WatchedKeys x = withHistory();
    due(0.0f, x.meanLag());
    x.watch(7, 7, 1, 0);
    due(0.0f, x.meanLag());
    x.watch(5, 5, 1, 0);
    due(1.0f, x.meanLag());
    x.watch(0, 999, 1, 0);
    due(7.0f / 3.0f, x.meanLag());
    x.take(2);
    due(2.0f, x.meanLag());
    x.unwatch(0);
    due(3.0f, x.meanLag());
    x.compact(4);
    due(1.0f, x.meanLag());
    x.put(5, 0, 0);
    due(2.0f, x.meanLag());
    x.compact(7);
    due(0.0f, x.meanLag());
    x.unwatch(0);
    x.unwatch(0);
    due(0.0f, x.meanLag());
  }
}
