/** Promises 39 to 45. */
final class LeaseEdges extends Bench {
  /** Leases of 3, 5, 5, 3 and 9 ticks; keys 40, 30, 20 and 21, 10; one without a lease. */
  private static WatchedKeys withLeases() {
    return loaded("grant 3;grant 5;grant 5;grant 3;grant 9;"
        + "put 40 1 1;put 30 1 2;put 21 1 3;put 20 1 3;put 10 1 4;put 50 1");
  }

  /** A store with eight leases. */
  private static WatchedKeys withEight() {
    return loaded("grant 5;".repeat(7) + "grant 5");
  }

  @Holds(at = "Promise 39", says = {
      "Grants a lease.",
      "Returns its number, 1 more than that of the lease that was granted before (1 for the "
      + "first one); FULL if there are 8."})
  static void grants() {
    WatchedKeys x = new WatchedKeys();
    due(1, x.grant(7));
    due("7 7 0", lease(x, 1));
    x.revoke(1);
    due(2, x.grant(1));
    x.tick(1);
    due(0, x.count(3));
    for (int number = 3; number <= 10; number++) {
      due(number, x.grant(number));
      due(number - 2, x.count(3));
    }
    due(FULL, x.grant(5));
    due(FULL, x.grant(5));
    x.revoke(10);
    due(11, x.grant(1000));
    due("1000 1000 0", lease(x, 11));
    due(FULL, x.grant(5));
    x.saveSnapshot(0);
    x.revoke(3);
    due(12, x.grant(5));
    x.restoreSnapshot(0);
    x.revoke(11);
    due(12, x.grant(5));
    for (int gone = 1; gone <= 8; gone++) {
      WatchedKeys y = loaded("grant 11;grant 12;grant 13;grant 14;grant 15;grant 16;grant 17;grant 18");
      y.revoke(gone);
      due(9, y.grant(19));
      for (int number = 1; number <= 9; number++) {
        int ttl = number == gone ? NO_LEASE : 10 + number;
        due(ttl + " " + ttl, y.lease(number, 0) + " " + y.lease(number, 1));
      }
    }
    dueRefusal(FULL, LeaseEdges::withEight, y -> y.grant(1));
    dueRefusal(FULL, LeaseEdges::withEight, y -> y.grant(1000));
  }

  @Holds(at = "Promise 39", says = {
      "1 to 1000, for how many ticks", "Throws `IllegalArgumentException` if ttl is out of range"})
  static void grantLimits() {
    dueLimits(1, 1000, (x, ttl) -> x.grant(ttl));
    WatchedKeys x = loaded("grant 1;grant 2;put 1 1 1;put 2 1 2");
    due(3, x.grant(1000));
    x.put(3, 1, 3);
    x.tick(1);
    due("2 3", keys(x, 0));
    x.tick(1);
    due("3", keys(x, 0));
    x.tick(997);
    due("1000 1 1", lease(x, 3));
    x.tick(1);
    due("", keys(x, 0));
    due("-3 -3 -3", lease(x, 3));
  }

  @Holds(at = "Promise 40", says = {
      "Returns a number of a lease.", "a number",
      "0 its TTL, 1 the ticks that are left, 2 how many keys it has",
      "Returns the number; NO_LEASE if there is no such lease."})
  static void numbersOfLeases() {
    WatchedKeys x = withLeases();
    due("3 3 1", lease(x, 1));
    due("5 5 2", lease(x, 3));
    due("9 9 0", lease(x, 5));
    x.tick(2);
    x.keepAlive(4);
    x.attach(50, 5);
    x.put(20, 1, 5);
    x.delete(40, 40);
    due("3 1 0", lease(x, 1));
    due("5 3 1", lease(x, 3));
    due("3 3 1", lease(x, 4));
    due("9 7 2", lease(x, 5));
    x.tick(1);
    due("-3 -3 -3", lease(x, 1));
    due("3 2 1", lease(x, 4));
    for (int number : new int[] {0, -1, 6, 9, MOST, LEAST}) {
      due("-3 -3 -3", lease(withLeases(), number));
    }
    due("-3 -3 -3", lease(new WatchedKeys(), 0));
    due("-3 -3 -3", lease(new WatchedKeys(), 1));
    dueLimits(LEAST, MOST, (y, number) -> y.lease(number, 0));
  }

  @Holds(at = "Promise 40", says = "Throws `IllegalArgumentException` if what is out of range")
  static void leaseLimits() {
    dueLimits(0, 2, (y, what) -> y.lease(1, what));
    dueLimits(0, 2, (y, what) -> y.lease(9, what));
    dueRefusal(ILLEGAL, WatchedKeys::new, y -> y.lease(1, 3));
  }

  @Holds(at = "Promise 41", says = {
      "Lets a lease have all of its ticks again.", "a number",
      "Returns its TTL; NO_LEASE if there is no such lease."})
  static void keepsAlive() {
    WatchedKeys x = withLeases();
    x.tick(2);
    due(3, x.keepAlive(1));
    due(9, x.keepAlive(5));
    due("3 3 1", lease(x, 1));
    due("3 1 1", lease(x, 4));
    due("9 9 0", lease(x, 5));
    due(3, x.keepAlive(1));
    due("3 3 1", lease(x, 1));
    due(7, x.count(0));
    x.tick(1);
    due(NO_LEASE, x.keepAlive(4));
    due(3, x.keepAlive(1));
    for (int number : new int[] {0, -1, 3, 9, MOST, LEAST}) {
      dueRefusal(NO_LEASE, Bench::rich, y -> y.keepAlive(number));
    }
    dueRefusal(NO_LEASE, WatchedKeys::new, y -> y.keepAlive(0));
    dueRefusal(NO_LEASE, WatchedKeys::new, y -> y.keepAlive(1));
    dueRefusal(NO_LEASE, () -> loaded("grant 5;revoke 1"), y -> y.keepAlive(1));
  }

  @Holds(at = "Promise 42", says = {
      "Ends a lease: all keys that have it are deleted, in rising order, in one revision (without "
      + "any, no revision passes).", "a number",
      "Returns how many keys there were; NO_LEASE if there is no such lease."})
  static void revokes() {
    WatchedKeys x = withLeases();
    due(2, x.revoke(3));
    due("8 0 4 4 0 8 0 0 0 0", counts(x));
    due("8 1 20 0 1 3", event(x, 6));
    due("8 1 21 0 1 3", event(x, 7));
    due("10 30 40 50", keys(x, 0));
    due(0, x.revoke(5));
    due("8 0 4 3 0 8 0 0 0 0", counts(x));
    due(NO_LEASE, x.revoke(5));
    due(NO_LEASE, x.revoke(3));
    x.attach(50, 1);
    x.attach(30, 1);
    due(3, x.revoke(1));
    due("10", keys(x, 0));
    due(9, x.count(0));
    due(0, x.revoke(2));
    due("9 0 1 1 0 11 0 0 0 0", counts(x));
    due("3 3 1", lease(x, 4));
    for (int number : new int[] {0, -1, 3, 9, MOST, LEAST}) {
      dueRefusal(NO_LEASE, Bench::rich, y -> y.revoke(number));
    }
    dueRefusal(NO_LEASE, () -> filled(0, 3), y -> y.revoke(0));
    WatchedKeys y = new WatchedKeys();
    y.grant(5);
    for (int key = 16; key > 0; key--) {
      y.put(key, 0, 1);
    }
    due(16, y.revoke(1));
    due("18 0 0 0 0 32 0 0 0 0", counts(y));
  }

  @Holds(at = "Promise 43", says = {
      "Lets ticks pass.",
      "In each of them all leases have one tick less; those that have none left then end as by "
      + "revoke(int), by their numbers, each in a revision of its own.", "Returns the time then."})
  static void ticks() {
    WatchedKeys x = withLeases();
    due(2, x.tick(2));
    due("7 0 6 5 0 6 2 0 0 0", counts(x));
    due("3 1 1 5 3 2", lease(x, 1) + " " + lease(x, 3));
    due(3, x.tick(1));
    due("9 0 4 3 0 8 3 0 0 0", counts(x));
    due("8 1 40 0 1 1", event(x, 6));
    due("9 1 10 0 1 4", event(x, 7));
    due(4, x.tick(1));
    due(5, x.tick(1));
    due("11 0 1 1 0 11 5 0 0 0", counts(x));
    due("10 1 30 0 1 2", event(x, 8));
    due("11 1 20 0 1 3", event(x, 9));
    due("11 1 21 0 1 3", event(x, 10));
    due(8, x.tick(3));
    due("9 1 0", lease(x, 5));
    due(9, x.tick(1));
    due("11 0 1 0 0 11 9 0 0 0", counts(x));
    due(1009, x.tick(1000));
    due("11 0 1 0 0 11 1009 0 0 0", counts(x));
  }

  @Holds(at = "Promise 43", says =
      "those that have none left then end as by revoke(int), by their numbers, each in a revision "
      + "of its own.")
  static void manyTicks() {
    WatchedKeys x = withLeases();
    due(1000, x.tick(1000));
    due("11 0 1 0 0 11 1000 0 0 0", counts(x));
    String[] due = {"8 1 40 0 1 1", "9 1 10 0 1 4", "10 1 30 0 1 2", "11 1 20 0 1 3", "11 1 21 0 1 3"};
    for (int i = 0; i < due.length; i++) {
      due(due[i], event(x, 6 + i));
    }
    WatchedKeys y = new WatchedKeys();
    for (int lease = 1; lease <= 8; lease++) {
      y.grant(1000 - lease % 4);
      y.put(100 - lease, lease, lease);
    }
    due(996, y.tick(996));
    due("9 0 8 8 0 8 996 0 0 0", counts(y));
    y.keepAlive(5);
    due(1000, y.tick(4));
    due("16 0 1 1 0 15 1000 0 0 0", counts(y));
    int[] order = {3, 7, 2, 6, 1, 4, 8};
    for (int i = 0; i < order.length; i++) {
      due(10 + i + " 1 " + (100 - order[i]) + " 0 " + order[i] + " " + order[i], event(y, 8 + i));
    }
    due("999 995 1", lease(y, 5));
  }

  @Holds(at = "Promise 43", says = {
      "1 to 1000", "Throws `IllegalArgumentException` if ticks is out of range"})
  static void tickLimits() {
    dueLimits(1, 1000, (x, ticks) -> x.tick(ticks));
    due(1, new WatchedKeys().tick(1));
    due(1000, new WatchedKeys().tick(1000));
  }

  @Holds(at = "Promise 44", says = {
      "Tells which lease will end first if none is kept alive.",
      "0 its number (of several the least one), 1 behind how many ticks",
      "Returns the number; NONE without leases."})
  static void expiries() {
    due("-1 -1", new WatchedKeys().expiry(0) + " " + new WatchedKeys().expiry(1));
    WatchedKeys x = withLeases();
    due("1 3", x.expiry(0) + " " + x.expiry(1));
    x.tick(2);
    due("1 1", x.expiry(0) + " " + x.expiry(1));
    x.keepAlive(1);
    due("4 1", x.expiry(0) + " " + x.expiry(1));
    x.tick(1);
    due("1 2", x.expiry(0) + " " + x.expiry(1));
    x.keepAlive(1);
    due("2 2", x.expiry(0) + " " + x.expiry(1));
    x.revoke(2);
    due("3 2", x.expiry(0) + " " + x.expiry(1));
    x.tick(3);
    due("5 3", x.expiry(0) + " " + x.expiry(1));
    x.tick(3);
    due("-1 -1", x.expiry(0) + " " + x.expiry(1));
    due("2 1", loaded("grant 2;grant 1").expiry(0) + " " + loaded("grant 2;grant 1").expiry(1));
    due("1 1000", loaded("grant 1000").expiry(0) + " " + loaded("grant 1000").expiry(1));
  }

  @Holds(at = "Promise 44", says = "Throws `IllegalArgumentException` if what is out of range")
  static void expiryLimits() {
    dueLimits(0, 1, (y, what) -> y.expiry(what));
    dueRefusal(ILLEGAL, WatchedKeys::new, y -> y.expiry(2));
  }

  @Holds(at = "Promise 45", says = {
      "Predicts how many keys there will be behind some ticks.", "Returns the number."})
  static void keysInTicks() {
    due(0, new WatchedKeys().keysIn(1));
    int[] due = {0, 6, 6, 4, 4, 1, 1, 1, 1, 1, 1};
    for (int ticks = 1; ticks <= 10; ticks++) {
      WatchedKeys x = withLeases();
      String before = stored(x);
      due(due[ticks], x.keysIn(ticks));
      due(before, stored(x));
      x.tick(ticks);
      due(due[ticks], x.count(2));
    }
    due(1, withLeases().keysIn(1000));
    WatchedKeys x = withLeases();
    x.tick(2);
    x.keepAlive(1);
    x.attach(50, 4);
    due("4 4 0", x.keysIn(1) + " " + x.keysIn(2) + " " + x.keysIn(3));
    due(0, loaded("grant 1000;put 1 1 1").keysIn(1000));
    due(1, loaded("grant 1000;put 1 1 1").keysIn(999));
    due(1, loaded("put 1 1").keysIn(1000));
    dueRefusal(3, Bench::rich, y -> y.keysIn(5));
    dueRefusal(0, Bench::rich, y -> y.keysIn(1000));
  }

  @Holds(at = "Promise 45", says = {
      "1 to 1000", "Throws `IllegalArgumentException` if ticks is out of range"})
  static void keysInLimits() {
    dueLimits(1, 1000, (x, ticks) -> x.keysIn(ticks));
    dueRefusal(ILLEGAL, WatchedKeys::new, x -> x.keysIn(0));
  }
}
