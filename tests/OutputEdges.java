/** Section 6, and promises 53 to 56. */
final class OutputEdges extends Bench {
  @Holds(at = "Section 6", says =
      "A method that returns FULL, NO_LEASE, COMPACTED, FUTURE, TWICE or MISSED or throws an "
      + "exception changes nothing, except as load() says.")
  static void refusalsChangeNothing() {
    Object[][] refusals = {
        {NO_LEASE, (Act) x -> x.put(5, 1, 3)}, {COMPACTED, (Act) x -> x.compact(3)},
        {FUTURE, (Act) x -> x.compact(9)}, {COMPACTED, (Act) x -> x.revert(2)},
        {FUTURE, (Act) x -> x.revert(9)}, {NO_LEASE, (Act) x -> x.attach(5, 3)},
        {FUTURE, (Act) x -> x.watch(0, 9, 10, 0)}, {MISSED, (Act) x -> x.take(0)},
        {FUTURE, (Act) x -> x.rewatch(0, 10)}, {NO_LEASE, (Act) x -> x.keepAlive(3)},
        {NO_LEASE, (Act) x -> x.revoke(3)}, {TWICE, (Act) x -> x.then(0, 8, 1)},
        {TWICE, (Act) x -> x.otherwise(0, 7, 1)}, {COMPACTED, (Act) x -> x.getAt(5, 2)},
        {FUTURE, (Act) x -> x.changed(3, 9)}, {NO_LEASE, (Act) x -> x.lease(3, 0)},
        {ILLEGAL, (Act) x -> x.put(1000, 1, 0)}, {ILLEGAL, (Act) x -> x.delete(1, 0)},
        {ILLEGAL, (Act) x -> x.compact(0)}, {ILLEGAL, (Act) x -> x.revert(0)},
        {ILLEGAL, (Act) x -> x.attach(5, -1)}, {ILLEGAL, (Act) x -> x.watch(0, 9, 0, 3)},
        {OUTSIDE, (Act) x -> x.take(2)}, {OUTSIDE, (Act) x -> x.admit(2)},
        {OUTSIDE, (Act) x -> x.unwatch(2)}, {OUTSIDE, (Act) x -> x.rewatch(2, 0)},
        {ILLEGAL, (Act) x -> x.grant(1001)}, {ILLEGAL, (Act) x -> x.tick(1001)},
        {ILLEGAL, (Act) x -> x.when(1000, 0, 0, 0)}, {ILLEGAL, (Act) x -> x.then(0, 9, 1000001)},
        {ILLEGAL, (Act) x -> x.otherwise(0, 9, 1000001)}, {ILLEGAL, (Act) x -> x.writeKey(1000)},
        {ILLEGAL, (Act) x -> x.saveSnapshot(2)}, {ILLEGAL, (Act) x -> x.restoreSnapshot(2)}};
    for (Object[] one : refusals) {
      dueRefusal(one[0], Bench::rich, (Act) one[1]);
    }
  }

  /** Sixteen keys, eight watches, eight leases, six conditions, and six steps of both kinds. */
  private static WatchedKeys full() {
    WatchedKeys x = filled(10, 16);
    for (int i = 0; i < 8; i++) {
      x.grant(5);
      x.watch(0, 9, 0, 0);
    }
    for (int i = 0; i < 6; i++) {
      x.when(10, 0, 0, 10);
      x.then(0, 30 + i, 0);
      x.otherwise(0, 30 + i, 0);
    }
    x.compact(17);
    return x;
  }

  private static WatchedKeys withFullBuffer() {
    WatchedKeys x = new WatchedKeys();
    append(x, " ".repeat(493) + "put 1 1");
    return x;
  }

  @Holds(at = "Section 6", says = {
      "A method that returns FULL, NO_LEASE, COMPACTED, FUTURE, TWICE or MISSED",
      "`FULL = -2`: A limit would be exceeded."})
  static void fullChangesNothing() {
    Act[] acts = {x -> x.put(9, 1, 0), x -> x.watch(0, 9, 0, 0), x -> x.grant(5),
        x -> x.when(10, 0, 0, 11), x -> x.then(0, 40, 0), x -> x.otherwise(0, 40, 0), x -> x.commit()};
    for (Act act : acts) {
      dueRefusal(FULL, OutputEdges::full, act);
    }
    dueRefusal(FULL, OutputEdges::withFullBuffer, x -> x.append('0'));
    dueRefusal(FULL, OutputEdges::withFullBuffer, x -> x.append(-1L));
  }

  @Holds(at = "Section 6", says =
      "If several exceptions apply, the one that is named first is thrown")
  static void firstException() {
    for (int what : new int[] {-1, 7, LEAST, MOST}) {
      dueOutside(x -> x.event(5, what));
      dueOutside(x -> x.watchValue(2, what));
      dueOutside(x -> x.taken(2, what));
      dueIllegal(x -> x.event(4, what));
      dueIllegal(x -> x.watchValue(1, what));
      dueIllegal(x -> x.taken(1, what));
    }
    dueOutside(x -> x.rewatch(2, -1));
    dueIllegal(x -> x.rewatch(1, -1));
  }

  @Holds(at = "Section 6", says = "exceptions come before errors")
  static void exceptionsBeforeErrors() {
    Act[] ofFull = {x -> x.put(9, 1000001, 0), x -> x.put(9, 1, -1), x -> x.put(-1, 1, 9),
        x -> x.watch(0, 9, -1, 0), x -> x.watch(0, 9, 0, 3), x -> x.watch(9, 0, 99, 0), x -> x.grant(0),
        x -> x.grant(1001), x -> x.when(10, 4, 0, 0), x -> x.when(10, 0, 4, 0), x -> x.when(-1, 0, 0, 0),
        x -> x.then(2, 40, 0), x -> x.then(0, 30, 1000001), x -> x.then(0, 1000, 0),
        x -> x.otherwise(2, 40, 0), x -> x.otherwise(0, 30, 1000001), x -> x.otherwise(0, -1, 0)};
    for (Act act : ofFull) {
      dueRefusal(ILLEGAL, OutputEdges::full, act);
    }
    Act[] ofRich = {x -> x.put(5, 1000001, 9), x -> x.put(5, 1, -1), x -> x.attach(6, -1),
        x -> x.attach(1000, 9),
        x -> x.getAt(1000, 1), x -> x.getAt(-1, 99), x -> x.keysAt(6, 5, 1), x -> x.keyAt(6, 5, 0, 99),
        x -> x.sumAt(6, 5, 1), x -> x.changed(1, -1), x -> x.changed(99, -1), x -> x.compact(0),
        x -> x.revert(0), x -> x.watch(6, 5, 99, 0), x -> x.watch(0, 9, 99, 3), x -> x.lease(9, 3),
        x -> x.then(0, 8, 1000001), x -> x.otherwise(0, 7, 1000001), x -> x.get(6, 5),
        x -> x.versionAt(6, 0), x -> x.rewatch(0, -1)};
    for (Act act : ofRich) {
      dueIllegal(act);
    }
    dueOutside(x -> x.rewatch(2, 99));
  }

  @Holds(at = "Section 6", says = "and of several errors the one that is named first is returned")
  static void firstError() {
    dueRefusal(FULL, OutputEdges::full, x -> x.put(9, 1, 9));
    dueRefusal(NO_LEASE, OutputEdges::full, x -> x.put(10, 1, 9));
    dueRefusal(FULL, OutputEdges::full, x -> x.watch(0, 9, 99, 0));
    dueRefusal(FULL, OutputEdges::full, x -> x.then(0, 30, 0));
    dueRefusal(FULL, OutputEdges::full, x -> x.otherwise(0, 30, 0));
    dueRefusal(NONE, Bench::rich, x -> x.attach(6, 9));
    dueRefusal(COMPACTED, Bench::rich, x -> x.changed(2, 9));
    dueRefusal(FUTURE, Bench::rich, x -> x.changed(9, 2));
  }

  @Holds(at = "Section 6", says = "Predictions change nothing.")
  static void predictions() {
    for (int number : new int[] {1, 3, 4, 6, 8, 47, 1000}) {
      WatchedKeys x = rich();
      x.missing(number);
      x.keysIn(number);
      x.wouldWrite();
      x.expiry(number % 2);
      x.holds();
      x.safe();
      due(all(rich()), all(x));
    }
  }

  @Holds(at = "Section 6", says = {
      "`NONE = -1`: There is no such thing.", "`FULL = -2`",
      "`NO_LEASE = -3`: There is no such lease.", "`TWICE = -4`: A key has a step already.",
      "`MISSED = -5`: A watch has missed something.",
      "`COMPACTED = -2000000001`: A revision is compacted.",
      "`FUTURE = -2000000002`: A revision is yet to come.",
      "`NO_VALUE = -2000000000`: There is no such value."})
  static void constants() {
    due(-1, WatchedKeys.NONE);
    due(-2, WatchedKeys.FULL);
    due(-3, WatchedKeys.NO_LEASE);
    due(-4, WatchedKeys.TWICE);
    due(-5, WatchedKeys.MISSED);
    due(-2000000001, WatchedKeys.COMPACTED);
    due(-2000000002, WatchedKeys.FUTURE);
    due(-2000000000, WatchedKeys.NO_VALUE);
  }

  private static void dueWritten(String text, WatchedKeys x, int key) {
    due(text.length(), x.writeKey(key));
    due(text, output(x));
  }

  @Holds(at = "Promise 53", says = {
      "Writes a key to the output, in place of what it had: the key, a colon, its value, and \" "
      + "v\" with its version; if it has a lease, then \" l\" with the lease; nothing if there is "
      + "no such key.", "Numbers are decimal.", "Returns the length of the output."})
  static void writtenKeys() {
    WatchedKeys x = loaded("grant 5;grant 5;put 0 0;put 999 -1000000 2;put 12 1000000;put 7 -5");
    dueWritten("0:0 v1", x, 0);
    dueWritten("999:-1000000 v1 l2", x, 999);
    dueWritten("12:1000000 v1", x, 12);
    dueWritten("7:-5 v1", x, 7);
    for (int version = 2; version <= 101; version++) {
      x.put(7, 10, 0);
      if (version == 9 || version == 10 || version == 99 || version >= 100) {
        dueWritten("7:10 v" + version, x, 7);
      }
    }
    x.attach(7, 1);
    dueWritten("7:10 v101 l1", x, 7);
    dueWritten("", x, 8);
    dueWritten("0:0 v1", x, 0);
    x.put(0, 1, 0);
    due("0:0 v1", output(x));
    x.delete(0, 0);
    dueWritten("", x, 0);
    dueWritten("", x, 1);
    x.put(0, 1, 0);
    dueWritten("0:1 v1", x, 0);
    WatchedKeys y = new WatchedKeys();
    for (int lease = 1; lease <= 12; lease++) {
      y.grant(5);
      y.revoke(lease - 2);
    }
    y.put(5, 5, 12);
    dueWritten("5:5 v1 l12", y, 5);
    dueWritten("", new WatchedKeys(), 0);
  }

  @Holds(at = "Promise 53", says = {
      "0 to 999", "Throws `IllegalArgumentException` if key is out of range"})
  static void writeKeyLimits() {
    dueLimits(0, 999, (x, key) -> x.writeKey(key));
  }

  @Holds(at = "Promise 54", says = {
      "Returns a byte of the output.", "the index, from 0",
      "Returns the byte; NONE if there is none."})
  static void outputBytes() {
    WatchedKeys x = rich();
    String text = "5:51 v2 l1";
    for (int i = 0; i < text.length(); i++) {
      due((int) text.charAt(i), x.outputByte(i));
    }
    for (int index : new int[] {10, 11, 1000, -1, -2, LEAST, MOST}) {
      due(NONE, x.outputByte(index));
      due(NONE, new WatchedKeys().outputByte(index));
    }
    due(NONE, new WatchedKeys().outputByte(0));
    x.writeKey(6);
    due(NONE, x.outputByte(0));
    x.writeKey(0);
    due((int) '1', x.outputByte(8));
    due(NONE, x.outputByte(9));
    x.put(0, 1, 0);
    x.writeKey(0);
    due((int) '2', x.outputByte(5));
    due(NONE, x.outputByte(6));
  }

  @Holds(at = "Promise 55", says = {
      "Copies the store, with the time, leases, watches and the transaction, to a snapshot.",
      "Returns the present revision."})
  static void saves() {
    due(1, new WatchedKeys().saveSnapshot(0));
    for (int slot = 0; slot <= 1; slot++) {
      WatchedKeys x = rich();
      int own = slot;
      due(8, x.saveSnapshot(own));
      String before = stored(x);
      x.put(5, 9, 0);
      x.delete(0, 0);
      x.compact(6);
      x.tick(20);
      x.grant(7);
      x.admit(0);
      x.take(0);
      x.unwatch(1);
      x.watch(1, 2, 0, 1);
      x.watch(1, 2, 0, 1);
      x.commit();
      x.when(1, 1, 1, 1);
      x.then(0, 20, 2);
      x.otherwise(0, 20, 1);
      due(8, x.restoreSnapshot(own));
      due(before, stored(x));
      due(3, x.grant(5));
      due("5:51 v2 l1", output(x));
      due(7, x.append(0L));
      due(0, x.commit());
      due("0 5", keys(x, 0));
      due(8, x.restoreSnapshot(own));
      x.put(7, 7, 0);
      x.delete(7, 7);
      x.put(7, 7, 0);
      due(1, x.commit());
      due("0 7 8", keys(x, 0));
      due(80, x.get(8, 0));
    }
    WatchedKeys x = rich();
    x.saveSnapshot(1);
    x.put(9, 9, 0);
    due(9, x.saveSnapshot(1));
    x.put(8, 8, 0);
    due(10, x.saveSnapshot(0));
    due(9, x.restoreSnapshot(1));
    due("0 5 7 9", keys(x, 0));
    due(10, x.restoreSnapshot(0));
    due("0 5 7 8 9", keys(x, 0));
  }

  @Holds(at = "Promise 55", says = {
      "0 or 1", "Throws `IllegalArgumentException` if slot is out of range"})
  static void saveLimits() {
    dueLimits(0, 1, (x, slot) -> x.saveSnapshot(slot));
  }

  @Holds(at = "Promise 56", says = {
      "Replaces all that by a copy of a snapshot, which stays.",
      "Returns the present revision; NONE if nothing was saved there."})
  static void restores() {
    String before = stored(rich());
    WatchedKeys x = rich();
    due(8, x.saveSnapshot(1));
    for (int i = 0; i < 2; i++) {
      x.put(1, 1, 0);
      x.admit(0);
      x.take(0);
      x.tick(30);
      x.revoke(1);
      x.drop();
      x.then(0, 3, 3);
      x.watch(0, 9, 0, 0);
      x.compact(9);
      due(8, x.restoreSnapshot(1));
      due(before, stored(x));
    }
    due(7, x.restoreSnapshot(0));
    due(8, x.restoreSnapshot(1));
    x = rich();
    due(8, x.saveSnapshot(1));
    append(x, ";tick 3");
    due(2, x.load());
    due(8, x.restoreSnapshot(1));
    due(before, stored(x));
    dueRefusal(NONE, Bench::rich, y -> y.restoreSnapshot(1));
    dueRefusal(NONE, WatchedKeys::new, y -> y.restoreSnapshot(0));
    dueRefusal(NONE, WatchedKeys::new, y -> y.restoreSnapshot(1));
    WatchedKeys y = new WatchedKeys();
    y.saveSnapshot(0);
    y.put(1, 1, 0);
    due(NONE, y.restoreSnapshot(1));
    due(2, y.count(0));
    due(1, y.restoreSnapshot(0));
    due("1 0 0 0 0 0 0 0 0 0", counts(y));
  }

  @Holds(at = "Promise 56", says = {
      "0 or 1", "Throws `IllegalArgumentException` if slot is out of range"})
  static void restoreLimits() {
    dueLimits(0, 1, (x, slot) -> x.restoreSnapshot(slot));
  }
}
