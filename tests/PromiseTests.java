/** One test for each promise of ../shared/DOC.md: ordinary inputs, edges and wrong inputs. */
public final class PromiseTests extends Bench {
  private interface Test {
    void run();
  }

  private static void newObject() {
    WatchedKeys x = new WatchedKeys();
    due("1 0 0 0 0 0 0 0 0 0", counts(x));
    due(1, x.append('p'));
    due(NONE, x.outputByte(0));
    due(NONE, x.restoreSnapshot(0));
    due(NONE, x.restoreSnapshot(1));
    due(0, x.drop());
    due(17, x.digest(0));
  }

  private static void append() {
    WatchedKeys x = new WatchedKeys();
    due(0, x.append(0L));
    due(1, x.append(0x2000L));
    due(3, x.append(0x7469000000000000L));
    due(4, x.append(0x0000630000000000L));
    due(8, x.append(0x6b00200020000035L));
    due(1, x.load());
    due(5, x.count(6));
    for (int i = 0; i < 62; i++) {
      x.append(0x2020202020202020L);
    }
    due(499, x.append(0x202020L));
    due(FULL, x.append(0x2020L));
    due(500, x.append(0x20L));
    due(FULL, x.append(0x20L));
    due(500, x.append(0L));
    due(-600, x.load());
    due(8, x.append(-1L));
    due(-100, x.load());
  }

  private static void load() {
    WatchedKeys x = new WatchedKeys();
    append(x, "  put5-7 ;put 6 0009;grant 10;put 7 1 1; del 6;del 0 5; watch 0 999 2;tick 3;revert 2;"
        + "compact 3;keep 1;attach 5 1;attach 5 0 ;revoke 1 ");
    due(14, x.load());
    due("7 3 1 0 1 5 3 0 0 0", counts(x));
    due(-7, x.get(5, 0));
    due("0 999 0 5 0 2 2", watch(x, 0));
    due(0, x.append(0L));
    due(-100, x.load());
    due("7 3 1 0 1 5 3 0 0 0", counts(x));
    x.when(1, 0, 0, 0);
    x.saveSnapshot(1);
    x.writeKey(5);
    append(x, "grant 5");
    due(1, x.load());
    due("1 0 0 1 0 0 0 0 0 0", counts(x));
    due(5, x.lease(1, 0));
    due("5:-7 v1", output(x));
    due(7, x.restoreSnapshot(1));
    due(1, x.count(7));
    append(x, "put 1 1;put 2 2;bad");
    due(-116, x.load());
    due("7 3 1 0 1 5 3 1 0 0", counts(x));
    due(0, x.append(0L));
    due(1, loaded("put 0 -1000000").count(2));
    due(999, loaded("put 0999 1000000").keyAt(0, 999, 0, 0));
    due(-1000000, loaded("put 1-1000000").get(1, 0));
    due(0, loaded("put 1 -0").get(1, 0));
    due(2, loaded("put 1 1;put 2 2;watch 1 2 2").watchValue(0, 3));
    due(1, loaded("put 1 1;put 2 2;put 3 3;del 1 2").count(2));
  }

  private static void loadError() {
    due(0, new WatchedKeys().loadError());
    due(0, loaded("tick 1").loadError());
    WatchedKeys x = new WatchedKeys();
    append(x, "put");
    due(-103, x.load());
    due(1, x.loadError());
    append(x, "tick 1");
    x.load();
    due(0, x.loadError());
    badPlaces();
    badRanges();
    refusals();
  }

  private static void badPlaces() {
    dueError("", 0, 1, 0);
    dueError("   ", 3, 1, 0);
    dueError(";", 0, 1, 0);
    dueError("5", 0, 1, 0);
    dueError("pu 1 1", 0, 1, 0);
    dueError("puts 1 1", 0, 1, 0);
    dueError("putdel 1 1", 0, 1, 0);
    dueError("Put 1 1", 0, 1, 0);
    dueError("tickz 1", 0, 1, 0);
    dueError("tick{1", 4, 1, 0);
    dueError("tick`1", 4, 1, 0);
    dueError("tick/1", 4, 1, 0);
    dueError("tick:1", 4, 1, 0);
    dueError("tick 1:", 6, 1, 0);
    dueError("tick 1/", 6, 1, 0);
    dueError(" put x", 5, 1, 0);
    dueError("put put", 4, 1, 0);
    dueError("put 1", 5, 1, 0);
    dueError("put 1  ", 7, 1, 0);
    dueError("put 1;", 5, 1, 0);
    dueError("put -1 1", 4, 1, 0);
    dueError("put 1 - 1", 6, 1, 0);
    dueError("put 1--1", 5, 1, 0);
    dueError("put 1 -", 6, 1, 0);
    dueError("put 1 2 -3", 8, 1, 0);
    dueError("put 1\t2", 5, 1, 0);
    dueError("put 1 2,", 7, 1, 0);
    dueError("put 1 2" + (char) 200, 7, 1, 0);
    dueError("tick 1 2", 7, 1, 0);
    dueError("tick 1x", 6, 1, 0);
    dueError("tick 1 tick 1", 7, 1, 0);
    dueError("tick 1;", 7, 1, 1);
    dueError("tick 1; ", 8, 1, 1);
    dueError("tick 1;;tick 1", 7, 1, 1);
    dueError("tick 1;tick 1;tick", 18, 1, 2);
    dueError("watch 1", 7, 1, 0);
    dueError("watch 0 1 0 0", 12, 1, 0);
    dueError("attach 1", 8, 1, 0);
    dueError("del 5 -3", 6, 1, 0);
  }

  private static void badRanges() {
    dueError("put 1000 x", 4, 2, 0);
    dueError("put 1 -1000001", 6, 2, 0);
    dueError("put 1 1000001", 6, 2, 0);
    dueError("put 1 1 10000", 8, 2, 0);
    dueError("put 1 99999999999999999999999", 6, 2, 0);
    dueError("put 1 4294967296", 6, 2, 0);
    dueError("del 1000", 4, 2, 0);
    dueError("del 1000 2000", 4, 2, 0);
    dueError("del 5 4", 6, 2, 0);
    dueError("del 5 1000", 6, 2, 0);
    dueError("watch 5 4", 8, 2, 0);
    dueError("watch 1000 4", 6, 2, 0);
    dueError("watch 0 1 10000", 10, 2, 0);
    dueError("grant 0", 6, 2, 0);
    dueError("grant 1001", 6, 2, 0);
    dueError("tick 0", 5, 2, 0);
    dueError("tick 1001", 5, 2, 0);
    dueError("compact 0", 8, 2, 0);
    dueError("compact 10000", 8, 2, 0);
    dueError("revert 0", 7, 2, 0);
    dueError("revert 10000", 7, 2, 0);
    dueError("keep 10000", 5, 2, 0);
    dueError("revoke 10000", 7, 2, 0);
    dueError("attach 1000 0", 7, 2, 0);
    dueError("put 1 1;attach 1 10000", 17, 2, 1);
    due(1000, loaded("tick 1000").count(6));
    due(1000, loaded("grant 1000").lease(1, 0));
  }

  private static void refusals() {
    dueError("put 1 2 3", 0, 3, 0);
    dueError("put 1 2 3 x", 0, 3, 0);
    dueError(" keep 0", 1, 3, 0);
    dueError("keep 9999", 0, 3, 0);
    dueError("revoke 1", 0, 3, 0);
    dueError("compact 2", 0, 3, 0);
    dueError("compact 1; compact 1", 11, 3, 1);
    dueError("revert 9999", 0, 3, 0);
    dueError("put 1 1;compact 2;revert 1", 18, 3, 2);
    dueError("watch 0 1 3", 0, 3, 0);
    dueError("attach 1 0", 0, 3, 0);
    dueError("put 1 1;attach 1 1", 8, 3, 1);
    dueError("grant 1;grant 1;grant 1;grant 1;grant 1;grant 1;grant 1;grant 1;grant 1", 64, 3, 8);
    StringBuilder text = new StringBuilder();
    for (int key = 10; key < 26; key++) {
      text.append("put ").append(key).append(" 0;");
    }
    due(16, loaded(text.substring(0, text.length() - 1)).count(2));
    dueError(text + "put 26 0", 144, 3, 16);
    due(0, loaded("del 1").count(5));
  }

  private static void loadStatement() {
    due(NONE, new WatchedKeys().loadStatement());
    due(NONE, loaded("tick 1;tick 1").loadStatement());
    dueError("tick 1;tick 1 x", 14, 1, 1);
    dueError("tick 1;tick 0", 12, 2, 1);
    dueError("tick 1;tick 1; revert 2", 15, 3, 2);
    WatchedKeys x = new WatchedKeys();
    append(x, "tick 1;");
    x.load();
    append(x, "tick 1");
    x.load();
    due(NONE, x.loadStatement());
  }

  private static void count() {
    WatchedKeys x = new WatchedKeys();
    x.grant(5);
    x.grant(6);
    x.put(1, 2, 0);
    x.put(2, 2, 0);
    x.put(3, 2, 0);
    x.put(3, 3, 0);
    x.watch(0, 5, 0, 0);
    x.compact(2);
    x.tick(4);
    x.when(1, 0, 0, 0);
    x.when(1, 0, 0, 0);
    x.then(1, 1, 1);
    x.then(1, 2, 1);
    x.then(1, 3, 1);
    x.otherwise(1, 2, 1);
    due("5 2 3 2 1 3 4 2 3 1", counts(x));
    dueIllegal(() -> x.count(-1));
    dueIllegal(() -> x.count(10));
    dueIllegal(() -> x.count(LEAST));
  }

  private static void get() {
    WatchedKeys x = new WatchedKeys();
    x.grant(5);
    x.put(7, 70, 0);
    x.put(8, 80, 0);
    x.put(7, 71, 1);
    due(71, x.get(7, 0));
    due(2, x.get(7, 1));
    due(4, x.get(7, 2));
    due(2, x.get(7, 3));
    due(1, x.get(7, 4));
    due(NO_VALUE, x.get(9, 3));
    x.delete(7, 7);
    due(NO_VALUE, x.get(7, 0));
    x.put(7, 72, 0);
    due(6, x.get(7, 1));
    due(1, x.get(7, 3));
    due(0, x.get(7, 4));
    due(NO_VALUE, x.get(0, 0));
    due(NO_VALUE, x.get(999, 4));
    dueIllegal(() -> x.get(-1, 0));
    dueIllegal(() -> x.get(1000, 0));
    dueIllegal(() -> x.get(7, -1));
    dueIllegal(() -> x.get(7, 5));
  }

  /** Revisions: 2 writes 5, 3 writes 6, 4 writes 5 again, 5 deletes 6, 6 writes 6 anew. */
  private static WatchedKeys withHistory() {
    return loaded("put 5 50;put 6 60;put 5 51;del 6;put 6 61");
  }

  private static void getAt() {
    WatchedKeys x = withHistory();
    due(NO_VALUE, x.getAt(5, 1));
    due(50, x.getAt(5, 2));
    due(NO_VALUE, x.getAt(6, 2));
    due(50, x.getAt(5, 3));
    due(51, x.getAt(5, 4));
    due(60, x.getAt(6, 4));
    due(NO_VALUE, x.getAt(6, 5));
    due(61, x.getAt(6, 6));
    due(61, x.getAt(6, 0));
    due(FUTURE, x.getAt(6, 7));
    due(FUTURE, x.getAt(6, MOST));
    x.compact(4);
    due(COMPACTED, x.getAt(5, 3));
    due(60, x.getAt(6, 4));
    due(51, x.getAt(5, 4));
    dueIllegal(() -> x.getAt(-1, 1));
    dueIllegal(() -> x.getAt(1000, 1));
    dueIllegal(() -> x.getAt(5, -1));
  }

  private static void keysAt() {
    WatchedKeys x = withHistory();
    due(0, x.keysAt(0, 999, 1));
    due(1, x.keysAt(0, 999, 2));
    due(2, x.keysAt(5, 6, 3));
    due(1, x.keysAt(6, 999, 3));
    due(1, x.keysAt(0, 5, 3));
    due(0, x.keysAt(7, 999, 3));
    due(1, x.keysAt(0, 999, 5));
    due(2, x.keysAt(0, 999, 0));
    due(FUTURE, x.keysAt(0, 999, 7));
    x.compact(3);
    due(COMPACTED, x.keysAt(0, 999, 2));
    dueIllegal(() -> x.keysAt(-1, 5, 3));
    dueIllegal(() -> x.keysAt(6, 5, 3));
    dueIllegal(() -> x.keysAt(0, 1000, 3));
    dueIllegal(() -> x.keysAt(0, 5, -1));
  }

  private static void keyAt() {
    WatchedKeys x = withHistory();
    x.put(2, 1, 0);
    due(2, x.keyAt(0, 999, 0, 0));
    due(5, x.keyAt(0, 999, 1, 0));
    due(6, x.keyAt(0, 999, 2, 0));
    due(NONE, x.keyAt(0, 999, 3, 0));
    due(NONE, x.keyAt(0, 5, 2, 0));
    due(6, x.keyAt(6, 6, 0, 0));
    due(5, x.keyAt(0, 999, 0, 3));
    due(NONE, x.keyAt(0, 999, -1, 3));
    due(NONE, x.keyAt(3, 999, MOST, 3));
    due(NONE, x.keyAt(3, 999, LEAST, 3));
    due(FUTURE, x.keyAt(0, 999, 0, 8));
    due(FUTURE, x.keyAt(0, 999, -1, 8));
    x.compact(3);
    due(COMPACTED, x.keyAt(0, 999, 0, 2));
    dueIllegal(() -> x.keyAt(-1, 5, 0, 3));
    dueIllegal(() -> x.keyAt(6, 5, 0, 3));
    dueIllegal(() -> x.keyAt(0, 1000, 0, 3));
    dueIllegal(() -> x.keyAt(0, 5, 0, -1));
  }

  private static void sumAt() {
    WatchedKeys x = withHistory();
    due(0L, x.sumAt(0, 999, 1));
    due(110L, x.sumAt(0, 999, 3));
    due(111L, x.sumAt(5, 6, 4));
    due(60L, x.sumAt(6, 6, 4));
    due(51L, x.sumAt(0, 5, 4));
    due(112L, x.sumAt(0, 999, 0));
    due((long) FUTURE, x.sumAt(0, 999, 7));
    x.compact(3);
    due((long) COMPACTED, x.sumAt(0, 999, 2));
    x.put(1, -1000000, 0);
    due(-999888L, x.sumAt(0, 999, 0));
    dueIllegal(() -> x.sumAt(-1, 5, 3));
    dueIllegal(() -> x.sumAt(6, 5, 3));
    dueIllegal(() -> x.sumAt(0, 1000, 3));
    dueIllegal(() -> x.sumAt(0, 5, -1));
  }

  private static void changed() {
    WatchedKeys x = withHistory();
    due(0, x.changed(3, 3));
    due(1, x.changed(2, 3));
    due(2, x.changed(1, 3));
    due(2, x.changed(3, 1));
    due(2, x.changed(3, 6));
    due(2, x.changed(3, 0));
    due(1, x.changed(0, 4));
    due(FUTURE, x.changed(7, 1));
    due(FUTURE, x.changed(1, 7));
    x.compact(3);
    due(COMPACTED, x.changed(1, 7));
    due(FUTURE, x.changed(7, 1));
    due(COMPACTED, x.changed(3, 2));
    x.put(5, 51, 0);
    due(0, x.changed(6, 7));
    dueIllegal(() -> x.changed(-1, 3));
    dueIllegal(() -> x.changed(3, -1));
  }

  private static void digest() {
    WatchedKeys x = withHistory();
    due(17, x.digest(1));
    due((17 * 31 + 5) * 31 + 50, x.digest(2));
    due((((17 * 31 + 5) * 31 + 51) * 31 + 6) * 31 + 61, x.digest(0));
    due(0, x.digest(7));
    x.compact(3);
    due(0, x.digest(2));
    fill(x, 900, 14);
    int number = (((17 * 31 + 5) * 31 + 51) * 31 + 6) * 31 + 61;
    for (int key = 900; key < 914; key++) {
      number = (number * 31 + key) * 31 + key;
    }
    due(number, x.digest(0));
    dueIllegal(() -> x.digest(-1));
  }

  private static void versionAt() {
    WatchedKeys x = withHistory();
    due(50, x.versionAt(5, 1));
    due(51, x.versionAt(5, 2));
    due(NO_VALUE, x.versionAt(5, 3));
    due(61, x.versionAt(6, 1));
    due(NO_VALUE, x.versionAt(6, 2));
    due(NO_VALUE, x.versionAt(7, 1));
    x.delete(5, 5);
    due(NO_VALUE, x.versionAt(5, 1));
    x.put(5, 52, 0);
    due(52, x.versionAt(5, 1));
    due(NO_VALUE, x.versionAt(5, 2));
    x.put(5, 53, 0);
    x.compact(8);
    due(NO_VALUE, x.versionAt(5, 1));
    due(53, x.versionAt(5, 2));
    dueIllegal(() -> x.versionAt(-1, 1));
    dueIllegal(() -> x.versionAt(1000, 1));
    dueIllegal(() -> x.versionAt(5, 0));
  }

  private static void event() {
    WatchedKeys x = new WatchedKeys();
    x.grant(5);
    x.put(5, 50, 1);
    x.put(5, 51, 0);
    x.put(6, 60, 0);
    x.attach(6, 1);
    x.delete(5, 6);
    due("2 0 5 50 " + NO_VALUE + " 1", event(x, 0));
    due("3 0 5 51 50 0", event(x, 1));
    due("4 0 6 60 " + NO_VALUE + " 0", event(x, 2));
    due("5 1 5 0 51 0", event(x, 3));
    due("5 1 6 0 60 1", event(x, 4));
    dueOutside(() -> x.event(5, 0));
    dueOutside(() -> x.event(-1, 0));
    dueOutside(() -> x.event(5, 6));
    dueOutside(() -> x.event(MOST, 0));
    dueIllegal(() -> x.event(0, 6));
    dueIllegal(() -> x.event(0, -1));
    x.compact(3);
    due("4 0 6 60 " + NO_VALUE + " 0", event(x, 0));
    dueOutside(() -> x.event(3, 0));
  }

  private static void writes() {
    WatchedKeys x = withHistory();
    due(2, x.writes(5));
    due(3, x.writes(6));
    due(0, x.writes(7));
    x.compact(3);
    due(1, x.writes(5));
    due(2, x.writes(6));
    due(0, x.writes(0));
    due(0, x.writes(999));
    dueIllegal(() -> x.writes(-1));
    dueIllegal(() -> x.writes(1000));
  }

  private static void busiest() {
    due(NONE, new WatchedKeys().busiest());
    WatchedKeys x = withHistory();
    due(6, x.busiest());
    x.put(5, 1, 0);
    due(5, x.busiest());
    x.compact(2);
    due(6, x.busiest());
    x.compact(7);
    due(NONE, x.busiest());
    x.put(999, 1, 0);
    due(999, x.busiest());
    x.put(0, 1, 0);
    due(0, x.busiest());
  }

  private static void deletedPart() {
    WatchedKeys x = new WatchedKeys();
    due(0.0, x.deletedPart());
    x.put(1, 1, 0);
    due(0.0, x.deletedPart());
    x.put(2, 1, 0);
    x.delete(1, 1);
    due(1.0 / 3.0, x.deletedPart());
    x.compact(3);
    due(1.0, x.deletedPart());
    x.compact(4);
    due(0.0, x.deletedPart());
  }

  /** Key 8 came first, then 3 and 9 in one revision, then 1; 8 was written again since. */
  private static WatchedKeys withOrder() {
    WatchedKeys x = new WatchedKeys();
    x.put(8, 1, 0);
    x.then(0, 9, 1);
    x.then(0, 3, 1);
    x.commit();
    x.put(1, 1, 0);
    x.put(8, 2, 0);
    return x;
  }

  private static void leader() {
    WatchedKeys x = withOrder();
    due(8, x.leader(0, 999));
    due(3, x.leader(0, 7));
    due(1, x.leader(0, 1));
    due(9, x.leader(9, 999));
    due(NONE, x.leader(10, 999));
    due(3, x.leader(3, 3));
    x.delete(8, 8);
    x.put(8, 1, 0);
    due(3, x.leader(0, 999));
    dueIllegal(() -> x.leader(-1, 5));
    dueIllegal(() -> x.leader(6, 5));
    dueIllegal(() -> x.leader(0, 1000));
  }

  private static void ahead() {
    WatchedKeys x = withOrder();
    due(NONE, x.ahead(8, 0, 999));
    due(8, x.ahead(3, 0, 999));
    due(3, x.ahead(9, 0, 999));
    due(9, x.ahead(1, 0, 999));
    due(3, x.ahead(1, 0, 7));
    due(NONE, x.ahead(1, 0, 2));
    due(8, x.ahead(9, 4, 999));
    due(NONE, x.ahead(1, 2, 999));
    due(NONE, x.ahead(9, 0, 8));
    due(NONE, x.ahead(7, 0, 999));
    dueIllegal(() -> x.ahead(-1, 0, 5));
    dueIllegal(() -> x.ahead(1000, 0, 5));
    dueIllegal(() -> x.ahead(1, -1, 5));
    dueIllegal(() -> x.ahead(1, 6, 5));
    dueIllegal(() -> x.ahead(1, 0, 1000));
  }

  private static void place() {
    WatchedKeys x = withOrder();
    due(0, x.place(8, 0, 999));
    due(1, x.place(3, 0, 999));
    due(2, x.place(9, 0, 999));
    due(3, x.place(1, 0, 999));
    due(1, x.place(1, 0, 7));
    due(0, x.place(9, 9, 999));
    due(NONE, x.place(1, 2, 999));
    due(NONE, x.place(9, 0, 8));
    due(NONE, x.place(7, 0, 999));
    dueIllegal(() -> x.place(-1, 0, 5));
    dueIllegal(() -> x.place(1000, 0, 5));
    dueIllegal(() -> x.place(1, -1, 5));
    dueIllegal(() -> x.place(1, 6, 5));
    dueIllegal(() -> x.place(1, 0, 1000));
  }

  private static void put() {
    WatchedKeys x = new WatchedKeys();
    x.grant(5);
    due(2, x.put(0, -1000000, 1));
    due(3, x.put(0, 1000000, 0));
    due(1000000, x.get(0, 0));
    due(0, x.get(0, 4));
    due(NO_LEASE, x.put(1, 1, 2));
    due(4, x.put(999, 5, 0));
    due(5, x.put(999, 5, 0));
    due(2, x.get(999, 3));
    fill(x, 100, 14);
    due(16, x.count(2));
    due(FULL, x.put(50, 1, 0));
    due(FULL, x.put(50, 1, 2));
    due(NO_LEASE, x.put(999, 1, 2));
    due(20, x.put(999, 6, 1));
    due(20, x.count(0));
    dueIllegal(() -> x.put(-1, 0, 0));
    dueIllegal(() -> x.put(1000, 0, 0));
    dueIllegal(() -> x.put(5, -1000001, 0));
    dueIllegal(() -> x.put(5, 1000001, 0));
    dueIllegal(() -> x.put(5, 0, -1));
    due(20, x.count(0));
    compactsItself();
  }

  private static void compactsItself() {
    WatchedKeys x = new WatchedKeys();
    fill(x, 0, 8);
    x.delete(0, 7);
    x.watch(0, 3, 1, 0);
    for (int i = 0; i < 104; i++) {
      x.put(500, i, 0);
    }
    due("114 0 1 0 1 120 0 0 0 0", counts(x));
    x.put(500, 0, 0);
    due("115 2 1 0 1 120 0 0 0 0", counts(x));
    due(0, x.getAt(0, 2));
    due(COMPACTED, x.getAt(0, 1));
    for (int i = 0; i < 7; i++) {
      x.put(500, 0, 0);
    }
    due("122 9 1 0 1 120 0 0 0 0", counts(x));
    due("0 3 0 4 0 2 4", watch(x, 0));
    x.put(500, 0, 0);
    due("123 10 1 0 1 113 0 0 0 0", counts(x));
    due("0 3 0 0 0 2 8", watch(x, 0));
    fill(x, 0, 8);
    due("131 11 9 0 1 120 0 0 0 0", counts(x));
    x.delete(0, 9);
    due("132 19 1 0 1 120 0 0 0 0", counts(x));
  }

  private static void delete() {
    WatchedKeys x = new WatchedKeys();
    x.put(9, 1, 0);
    x.put(3, 1, 0);
    x.put(5, 1, 0);
    due(0, x.delete(0, 2));
    due(4, x.count(0));
    due(2, x.delete(4, 9));
    due(5, x.count(0));
    due("5 1 5 0 1 0", event(x, 3));
    due("5 1 9 0 1 0", event(x, 4));
    due(1, x.count(2));
    due(1, x.delete(3, 3));
    due(0, x.delete(0, 999));
    due(6, x.count(0));
    dueIllegal(() -> x.delete(-1, 5));
    dueIllegal(() -> x.delete(6, 5));
    dueIllegal(() -> x.delete(0, 1000));
  }

  private static void compact() {
    WatchedKeys x = withHistory();
    due(FUTURE, x.compact(7));
    due(0, x.compact(1));
    due(COMPACTED, x.compact(1));
    due(2, x.compact(3));
    due(3, x.count(1));
    due(3, x.count(5));
    due(COMPACTED, x.compact(2));
    due(3, x.compact(6));
    due(COMPACTED, x.compact(6));
    due(112L, x.sumAt(0, 999, 6));
    dueIllegal(() -> x.compact(0));
    dueIllegal(() -> x.compact(-1));
    due(FUTURE, x.compact(MOST));
  }

  private static void revert() {
    WatchedKeys x = new WatchedKeys();
    x.grant(9);
    x.put(5, 50, 1);
    x.put(3, 30, 1);
    x.put(8, 80, 1);
    x.delete(5, 5);
    x.put(3, 31, 1);
    x.put(9, 90, 1);
    x.put(1, 10, 0);
    due(0, x.revert(8));
    due(8, x.count(0));
    due(4, x.revert(4));
    due(9, x.count(0));
    due("9 1 1 0 10 0", event(x, 7));
    due("9 1 9 0 90 1", event(x, 8));
    due("9 0 3 30 31 0", event(x, 9));
    due("9 0 5 50 " + NO_VALUE + " 0", event(x, 10));
    due(1, x.get(8, 4));
    due(3, x.get(3, 3));
    due(0, x.revert(4));
    due(0, x.revert(9));
    due(FUTURE, x.revert(10));
    x.compact(5);
    due(COMPACTED, x.revert(4));
    due(1, x.revert(5));
    due(2, x.count(2));
    dueIllegal(() -> x.revert(0));
    dueIllegal(() -> x.revert(LEAST));
    WatchedKeys y = new WatchedKeys();
    fill(y, 0, 16);
    y.delete(0, 999);
    fill(y, 100, 16);
    due(32, y.revert(17));
    due(16, y.count(2));
    due(16, y.revert(1));
    due("36 0 0 0 0 96 0 0 0 0", counts(y));
  }

  private static void attach() {
    WatchedKeys x = new WatchedKeys();
    x.grant(5);
    x.grant(5);
    x.put(7, 1, 1);
    due(1, x.attach(7, 2));
    due(2, x.get(7, 4));
    due(1, x.get(7, 3));
    due(2, x.count(0));
    due(1, x.count(5));
    due(NO_LEASE, x.attach(7, 3));
    due(2, x.attach(7, 0));
    due(0, x.attach(7, 1));
    due(NONE, x.attach(8, 1));
    due(NONE, x.attach(8, 9));
    due(1, x.get(7, 4));
    dueIllegal(() -> x.attach(-1, 0));
    dueIllegal(() -> x.attach(1000, 0));
    dueIllegal(() -> x.attach(7, -1));
  }

  private static void watch() {
    WatchedKeys x = withHistory();
    due(0, x.watch(0, 999, 0, 0));
    due(1, x.watch(0, 999, 1, 0));
    due(2, x.watch(6, 6, 4, 0));
    due(3, x.watch(0, 999, 1, 1));
    due(4, x.watch(0, 999, 1, 2));
    due(5, x.watch(0, 999, 7, 0));
    due(FUTURE, x.watch(0, 999, 8, 0));
    due("0 999 0 0 0 0 0", watch(x, 0));
    due("0 999 0 5 0 1 0", watch(x, 1));
    due("6 6 0 2 0 1 0", watch(x, 2));
    due("0 999 1 4 0 1 0", watch(x, 3));
    due("0 999 2 1 0 1 0", watch(x, 4));
    due("0 999 0 0 0 0 0", watch(x, 5));
    x.put(0, 1, 0);
    due(1, x.watchValue(0, 3));
    due(1, x.watchValue(5, 3));
    x.compact(5);
    due(6, x.watch(0, 999, 2, 0));
    due("0 999 0 2 0 1 0", watch(x, 6));
    due(7, x.watch(5, 5, 0, 0));
    due(FULL, x.watch(5, 5, 0, 0));
    due(FULL, x.watch(5, 5, 99, 0));
    dueIllegal(() -> x.watch(-1, 5, 0, 0));
    dueIllegal(() -> x.watch(6, 5, 0, 0));
    dueIllegal(() -> x.watch(0, 1000, 0, 0));
    dueIllegal(() -> x.watch(0, 5, -1, 0));
    dueIllegal(() -> x.watch(0, 5, 0, -1));
    dueIllegal(() -> x.watch(0, 5, 0, 3));
    due(FUTURE, new WatchedKeys().watch(0, 5, MOST, 0));
    due(0, new WatchedKeys().watch(0, 5, 2, 0));
  }

  private static void watchValue() {
    WatchedKeys x = withHistory();
    x.watch(5, 6, 1, 1);
    due("5 6 1 4 0 1 0", watch(x, 0));
    x.take(0);
    due("5 6 1 3 1 1 0", watch(x, 0));
    x.compact(4);
    due("5 6 1 1 1 2 2", watch(x, 0));
    x.compact(6);
    due("5 6 1 0 1 2 3", watch(x, 0));
    x.admit(0);
    due("5 6 1 0 1 0 0", watch(x, 0));
    dueOutside(() -> x.watchValue(1, 0));
    dueOutside(() -> x.watchValue(-1, 0));
    dueOutside(() -> x.watchValue(1, 7));
    dueIllegal(() -> x.watchValue(0, 7));
    dueIllegal(() -> x.watchValue(0, -1));
  }

  private static void take() {
    WatchedKeys x = withHistory();
    x.watch(6, 6, 1, 0);
    x.watch(5, 5, 3, 0);
    due(3, x.take(0));
    due(5, x.take(0));
    due(4, x.take(1));
    due(NONE, x.take(1));
    x.put(6, 1, 0);
    due(6, x.take(0));
    due(7, x.take(0));
    due(NONE, x.take(0));
    due(4, x.watchValue(0, 4));
    x.put(6, 2, 0);
    x.put(6, 3, 0);
    x.compact(8);
    due(MISSED, x.take(0));
    due(MISSED, x.take(0));
    due(4, x.watchValue(0, 4));
    x.compact(9);
    due(MISSED, x.take(0));
    due(2, x.admit(0));
    due(NONE, x.take(0));
    dueOutside(() -> x.take(2));
    dueOutside(() -> x.take(-1));
    dueOutside(() -> x.take(MOST));
    WatchedKeys y = new WatchedKeys();
    y.watch(0, 9, 0, 0);
    fill(y, 3, 2);
    y.delete(0, 9);
    due(2, y.take(0));
    due(3, y.take(0));
    due(4, y.take(0));
    due(3, y.taken(0, 2));
    due(4, y.take(0));
    due(4, y.taken(0, 2));
    due(NONE, y.take(0));
  }

  private static void taken() {
    WatchedKeys x = new WatchedKeys();
    x.grant(5);
    x.put(5, 50, 1);
    x.put(5, 51, 0);
    x.delete(5, 5);
    x.watch(0, 9, 1, 0);
    due(NO_VALUE, x.taken(0, 0));
    due(NO_VALUE, x.taken(0, 5));
    x.take(0);
    due("2 0 5 50 " + NO_VALUE + " 1", taken(x, 0));
    x.take(0);
    due("3 0 5 51 50 0", taken(x, 0));
    x.take(0);
    x.compact(4);
    x.take(0);
    due("4 1 5 0 51 0", taken(x, 0));
    x.rewatch(0, 0);
    due("4 1 5 0 51 0", taken(x, 0));
    x.unwatch(0);
    x.watch(0, 9, 0, 0);
    due(NO_VALUE, x.taken(0, 0));
    dueOutside(() -> x.taken(1, 0));
    dueOutside(() -> x.taken(-1, 9));
    dueIllegal(() -> x.taken(0, 6));
    dueIllegal(() -> x.taken(0, -1));
  }

  private static void admit() {
    WatchedKeys x = withHistory();
    x.watch(5, 5, 1, 0);
    x.watch(0, 9, 1, 0);
    due(0, x.admit(0));
    x.compact(3);
    due(1, x.admit(0));
    due(0, x.admit(0));
    due(4, x.take(0));
    x.compact(5);
    due(4, x.admit(1));
    due(6, x.take(1));
    due(0, x.admit(0));
    dueOutside(() -> x.admit(2));
    dueOutside(() -> x.admit(-1));
  }

  private static void rewatch() {
    WatchedKeys x = withHistory();
    x.watch(5, 6, 1, 0);
    x.take(0);
    x.take(0);
    due(5, x.rewatch(0, 1));
    due("5 6 0 5 2 1 0", watch(x, 0));
    due(2, x.take(0));
    due(2, x.rewatch(0, 5));
    due(5, x.take(0));
    due(0, x.rewatch(0, 0));
    due(0, x.rewatch(0, 7));
    due(FUTURE, x.rewatch(0, 8));
    due(FUTURE, x.rewatch(0, MOST));
    due(5, x.rewatch(0, 1));
    x.compact(4);
    due(3, x.watchValue(0, 6));
    due(FUTURE, x.rewatch(0, 8));
    due(3, x.watchValue(0, 6));
    due(2, x.rewatch(0, 2));
    due("5 6 0 2 4 1 0", watch(x, 0));
    dueOutside(() -> x.rewatch(1, 0));
    dueOutside(() -> x.rewatch(-1, -1));
    dueIllegal(() -> x.rewatch(0, -1));
  }

  private static void unwatch() {
    WatchedKeys x = withHistory();
    x.watch(1, 1, 1, 0);
    x.watch(5, 5, 1, 0);
    x.watch(6, 6, 1, 0);
    x.take(2);
    due(2, x.unwatch(0));
    due(5, x.watchValue(0, 0));
    due("6 6 0 2 1 1 0", watch(x, 1));
    due(1, x.unwatch(1));
    due("5 5 0 2 0 1 0", watch(x, 0));
    dueOutside(() -> x.unwatch(1));
    dueOutside(() -> x.unwatch(-1));
    due(0, x.unwatch(0));
    dueOutside(() -> x.unwatch(0));
    for (int i = 0; i < 8; i++) {
      due(i, x.watch(i, i, 1, 0));
    }
    due(7, x.unwatch(7));
    due(6, x.unwatch(3));
    due("6 6 0 3 0 1 0", watch(x, 5));
    due("4 4 0 0 0 0 0", watch(x, 3));
  }

  private static void safe() {
    WatchedKeys x = withHistory();
    due(6, x.safe());
    x.watch(6, 6, 1, 0);
    due(2, x.safe());
    x.watch(5, 5, 1, 0);
    due(1, x.safe());
    x.take(1);
    due(2, x.safe());
    x.take(0);
    due(3, x.safe());
    x.compact(3);
    due(3, x.safe());
    x.compact(4);
    due(4, x.safe());
    x.take(0);
    due(5, x.safe());
    x.take(0);
    due(6, x.safe());
  }

  private static void missing() {
    WatchedKeys x = withHistory();
    due(0, x.missing(6));
    x.watch(6, 6, 1, 0);
    x.watch(5, 5, 1, 0);
    x.watch(7, 7, 1, 0);
    due(0, x.missing(0));
    due(0, x.missing(1));
    due(1, x.missing(2));
    due(2, x.missing(3));
    due(2, x.missing(MOST));
    x.take(1);
    due(0, x.missing(2));
    due(1, x.missing(3));
    due(2, x.missing(4));
    x.compact(4);
    due(0, x.missing(4));
    due(1, x.missing(9));
    due(4, x.count(1));
    dueIllegal(() -> x.missing(-1));
  }

  private static void slowest() {
    WatchedKeys x = withHistory();
    due(NONE, x.slowest());
    x.watch(7, 7, 1, 0);
    due(NONE, x.slowest());
    x.watch(5, 5, 1, 0);
    x.watch(6, 6, 1, 0);
    x.watch(6, 6, 1, 0);
    due(2, x.slowest());
    x.take(2);
    due(3, x.slowest());
    x.take(3);
    due(1, x.slowest());
  }

  private static void behind() {
    WatchedKeys x = withHistory();
    x.watch(5, 5, 1, 0);
    x.watch(6, 6, 1, 2);
    x.watch(6, 6, 0, 0);
    due(5, x.behind(0));
    due(2, x.behind(1));
    due(0, x.behind(2));
    x.put(6, 1, 0);
    due(1, x.behind(2));
    x.take(0);
    due(4, x.behind(0));
    x.compact(4);
    due(0, x.behind(0));
    due(3, x.behind(1));
    dueOutside(() -> x.behind(3));
    dueOutside(() -> x.behind(-1));
  }

  private static void meanLag() {
    WatchedKeys x = withHistory();
    due(0.0f, x.meanLag());
    x.watch(5, 5, 1, 0);
    due(2.0f, x.meanLag());
    x.watch(6, 6, 1, 0);
    due(2.5f, x.meanLag());
    x.watch(7, 7, 1, 0);
    due(5.0f / 3.0f, x.meanLag());
    x.compact(6);
    due(0.0f, x.meanLag());
  }

  private static void grant() {
    WatchedKeys x = new WatchedKeys();
    due(1, x.grant(1));
    due(2, x.grant(1000));
    x.revoke(1);
    x.revoke(2);
    for (int i = 3; i <= 10; i++) {
      due(i, x.grant(i));
    }
    due(FULL, x.grant(5));
    x.revoke(4);
    due(11, x.grant(5));
    due(5, x.lease(11, 1));
    dueIllegal(() -> x.grant(0));
    dueIllegal(() -> x.grant(1001));
    dueIllegal(() -> x.grant(-1));
  }

  private static void lease() {
    WatchedKeys x = new WatchedKeys();
    x.grant(5);
    x.grant(7);
    x.put(1, 1, 2);
    x.put(2, 1, 2);
    x.put(3, 1, 1);
    x.put(4, 1, 0);
    x.tick(3);
    due(5, x.lease(1, 0));
    due(2, x.lease(1, 1));
    due(1, x.lease(1, 2));
    due(7, x.lease(2, 0));
    due(4, x.lease(2, 1));
    due(2, x.lease(2, 2));
    x.attach(1, 1);
    due(1, x.lease(2, 2));
    due(2, x.lease(1, 2));
    due(NO_LEASE, x.lease(0, 2));
    due(NO_LEASE, x.lease(3, 0));
    due(NO_LEASE, x.lease(-1, 0));
    dueIllegal(() -> x.lease(1, 3));
    dueIllegal(() -> x.lease(9, -1));
  }

  private static void keepAlive() {
    WatchedKeys x = new WatchedKeys();
    x.grant(5);
    x.grant(4);
    x.tick(3);
    due(5, x.keepAlive(1));
    due(5, x.lease(1, 1));
    due(1, x.lease(2, 1));
    due(NO_LEASE, x.keepAlive(0));
    due(NO_LEASE, x.keepAlive(3));
    due(NO_LEASE, x.keepAlive(LEAST));
    x.tick(1);
    due(NO_LEASE, x.keepAlive(2));
  }

  private static void revoke() {
    WatchedKeys x = new WatchedKeys();
    x.grant(5);
    x.grant(5);
    x.put(9, 1, 1);
    x.put(4, 2, 1);
    x.put(5, 3, 2);
    x.put(6, 3, 0);
    due(2, x.revoke(1));
    due(6, x.count(0));
    due("6 1 4 0 2 1", event(x, 4));
    due("6 1 9 0 1 1", event(x, 5));
    due(2, x.count(2));
    due(1, x.count(3));
    due(NO_LEASE, x.revoke(1));
    due(NO_LEASE, x.revoke(0));
    x.attach(5, 0);
    due(0, x.revoke(2));
    due(6, x.count(0));
    due(NO_LEASE, x.put(5, 1, 2));
    due(NO_LEASE, x.revoke(-2));
  }

  private static void tick() {
    WatchedKeys x = new WatchedKeys();
    x.grant(7);
    x.grant(5);
    x.grant(5);
    x.grant(6);
    x.grant(5);
    x.put(30, 1, 3);
    x.put(20, 1, 2);
    x.put(10, 1, 1);
    x.put(21, 1, 2);
    x.put(40, 1, 4);
    due(4, x.tick(4));
    due(6, x.count(0));
    due(1, x.lease(2, 1));
    due(10, x.tick(6));
    due("10 0 0 0 0 10 10 0 0 0", counts(x));
    due("7 1 20 0 1 2", event(x, 5));
    due("7 1 21 0 1 2", event(x, 6));
    due("8 1 30 0 1 3", event(x, 7));
    due("9 1 40 0 1 4", event(x, 8));
    due("10 1 10 0 1 1", event(x, 9));
    due(1010, x.tick(1000));
    due(1011, x.tick(1));
    dueIllegal(() -> x.tick(0));
    dueIllegal(() -> x.tick(1001));
    dueIllegal(() -> x.tick(-1));
    x.grant(3);
    x.tick(2);
    due(1, x.lease(6, 1));
    x.tick(1);
    due(NO_LEASE, x.lease(6, 1));
  }

  private static void expiry() {
    WatchedKeys x = new WatchedKeys();
    due(NONE, x.expiry(0));
    due(NONE, x.expiry(1));
    x.grant(9);
    x.grant(6);
    x.grant(6);
    due(2, x.expiry(0));
    due(6, x.expiry(1));
    x.tick(4);
    due(2, x.expiry(1));
    x.keepAlive(2);
    due(3, x.expiry(0));
    x.tick(2);
    due(1, x.expiry(0));
    due(3, x.expiry(1));
    dueIllegal(() -> x.expiry(-1));
    dueIllegal(() -> x.expiry(2));
  }

  private static void keysIn() {
    WatchedKeys x = new WatchedKeys();
    due(0, x.keysIn(1));
    x.grant(3);
    x.grant(5);
    x.put(1, 1, 1);
    x.put(2, 1, 2);
    x.put(3, 1, 2);
    x.put(4, 1, 0);
    due(4, x.keysIn(2));
    due(3, x.keysIn(3));
    due(3, x.keysIn(4));
    due(1, x.keysIn(5));
    due(1, x.keysIn(1000));
    due(4, x.count(2));
    due(0, x.count(6));
    dueIllegal(() -> x.keysIn(0));
    dueIllegal(() -> x.keysIn(1001));
  }

  private static void when() {
    WatchedKeys x = new WatchedKeys();
    for (int i = 1; i <= 6; i++) {
      due(i, x.when(i, 0, 0, LEAST));
    }
    due(FULL, x.when(1, 0, 0, 0));
    due(6, x.count(7));
    dueIllegal(() -> x.when(-1, 0, 0, 0));
    dueIllegal(() -> x.when(1000, 0, 0, 0));
    dueIllegal(() -> x.when(1, -1, 0, 0));
    dueIllegal(() -> x.when(1, 4, 0, 0));
    dueIllegal(() -> x.when(1, 0, -1, 0));
    dueIllegal(() -> x.when(1, 0, 4, 0));
    due(1, new WatchedKeys().when(999, 3, 3, MOST));
  }

  private static void then() {
    WatchedKeys x = new WatchedKeys();
    due(1, x.then(0, 0, -1000000));
    due(2, x.then(0, 999, 1000000));
    due(TWICE, x.then(1, 0, 5));
    due(3, x.then(1, 3, MOST));
    due(4, x.then(1, 4, LEAST));
    due(5, x.then(0, 5, 0));
    due(6, x.then(0, 6, 0));
    due(FULL, x.then(0, 7, 0));
    due(FULL, x.then(0, 6, 0));
    due(6, x.count(8));
    due(0, x.count(9));
    dueIllegal(() -> x.then(-1, 0, 0));
    dueIllegal(() -> x.then(2, 0, 0));
    dueIllegal(() -> x.then(0, -1, 0));
    dueIllegal(() -> x.then(1, 1000, 0));
    dueIllegal(() -> x.then(0, 1, 1000001));
    dueIllegal(() -> x.then(0, 1, -1000001));
    due(1, x.commit());
    due(4, x.count(2));
    due(1000000, x.get(999, 0));
  }

  private static void otherwise() {
    WatchedKeys x = new WatchedKeys();
    x.then(0, 5, 1);
    due(1, x.otherwise(0, 5, -1000000));
    due(2, x.otherwise(0, 999, 1000000));
    due(TWICE, x.otherwise(1, 999, 5));
    due(3, x.otherwise(1, 0, MOST));
    due(4, x.otherwise(1, 4, LEAST));
    due(5, x.otherwise(0, 6, 0));
    due(6, x.otherwise(0, 7, 0));
    due(FULL, x.otherwise(0, 8, 0));
    due(FULL, x.otherwise(0, 7, 0));
    due(1, x.count(8));
    due(6, x.count(9));
    dueIllegal(() -> x.otherwise(-1, 0, 0));
    dueIllegal(() -> x.otherwise(2, 0, 0));
    dueIllegal(() -> x.otherwise(0, -1, 0));
    dueIllegal(() -> x.otherwise(1, 1000, 0));
    dueIllegal(() -> x.otherwise(0, 1, 1000001));
    dueIllegal(() -> x.otherwise(0, 1, -1000001));
    x.when(1, 0, 0, 0);
    due(0, x.commit());
    due(4, x.count(2));
    due(-1000000, x.get(5, 0));
  }

  /** Whether one condition holds on a store in which key 5 has 50, revisions 2 and 4, version 2. */
  private static boolean isTrue(int key, int what, int relation, int number) {
    WatchedKeys x = loaded("put 5 49;put 6 1;put 5 50");
    x.when(key, what, relation, number);
    return x.holds() == NONE;
  }

  private static void holds() {
    due(NONE, new WatchedKeys().holds());
    int[] numbers = {50, 2, 4, 2};
    for (int what = 0; what <= 3; what++) {
      for (int number = numbers[what] - 1; number <= numbers[what] + 1; number++) {
        due(numbers[what] == number, isTrue(5, what, 0, number));
        due(numbers[what] != number, isTrue(5, what, 1, number));
        due(numbers[what] < number, isTrue(5, what, 2, number));
        due(numbers[what] > number, isTrue(5, what, 3, number));
      }
    }
    for (int relation = 0; relation <= 3; relation++) {
      due(false, isTrue(7, 0, relation, 0));
      due(false, isTrue(7, 0, relation, 1));
      due(false, isTrue(7, 0, relation, -1));
      for (int what = 1; what <= 3; what++) {
        due(relation == 0, isTrue(7, what, relation, 0));
        due(relation == 1 || relation == 2, isTrue(7, what, relation, 1));
        due(relation == 1 || relation == 3, isTrue(7, what, relation, -1));
      }
    }
    WatchedKeys x = withHistory();
    x.when(5, 0, 0, 51);
    x.when(6, 3, 3, 1);
    x.when(7, 0, 0, 0);
    due(1, x.holds());
    x.put(6, 1, 0);
    due(2, x.holds());
    x.put(7, 0, 0);
    due(NONE, x.holds());
    x.delete(5, 5);
    due(0, x.holds());
    due(3, x.count(7));
  }

  private static void wouldWrite() {
    WatchedKeys x = withHistory();
    due(0, x.wouldWrite());
    x.when(7, 3, 0, 0);
    x.then(0, 5, 1);
    x.then(0, 7, 1);
    x.then(1, 6, 1);
    x.then(1, 8, 1);
    x.otherwise(1, 8, 1);
    x.otherwise(1, 7, 1);
    due(3, x.wouldWrite());
    fill(x, 20, 14);
    due(3, x.wouldWrite());
    due(20, x.count(0));
    x.then(1, 20, 0);
    due(4, x.wouldWrite());
    x.delete(20, 20);
    due(3, x.wouldWrite());
    x.put(7, 1, 0);
    due(1, x.wouldWrite());
  }

  private static void commit() {
    WatchedKeys x = new WatchedKeys();
    due(1, x.commit());
    due(1, x.count(0));
    x.grant(5);
    x.put(5, 50, 1);
    x.when(5, 0, 0, 50);
    x.then(0, 9, 90);
    x.then(0, 5, 51);
    x.then(1, 7, 0);
    x.then(0, 3, 30);
    x.otherwise(1, 5, 0);
    due(1, x.commit());
    due("3 0 3 1 0 4 0 0 0 0", counts(x));
    due("3 0 9 90 " + NO_VALUE + " 0", event(x, 1));
    due("3 0 5 51 50 0", event(x, 2));
    due("3 0 3 30 " + NO_VALUE + " 0", event(x, 3));
    x.when(5, 0, 0, 50);
    x.then(0, 1, 1);
    x.otherwise(1, 5, 0);
    due(0, x.commit());
    due(NO_VALUE, x.get(5, 0));
    due(NO_VALUE, x.get(1, 0));
    due(4, x.count(0));
    x.then(1, 5, 0);
    due(1, x.commit());
    due(4, x.count(0));
    due(0, x.count(8));
    commitsAtTheLimit();
  }

  private static void commitsAtTheLimit() {
    WatchedKeys x = new WatchedKeys();
    fill(x, 0, 15);
    x.then(0, 20, 1);
    x.then(0, 21, 1);
    x.when(1, 0, 0, 1);
    x.otherwise(0, 20, 1);
    due(2, x.wouldWrite());
    due(FULL, x.commit());
    due("16 0 15 0 0 15 0 1 2 1", counts(x));
    x.then(0, 22, 1);
    x.then(1, 0, 1);
    due(FULL, x.commit());
    x.then(1, 30, 1);
    due(FULL, x.commit());
    x.then(1, 2, 1);
    due(1, x.commit());
    due("17 0 16 0 0 20 0 0 0 0", counts(x));
    for (int key = 40; key < 43; key++) {
      x.then(0, key, 1);
    }
    for (int key = 20; key < 23; key++) {
      x.then(1, key, 1);
    }
    due(1, x.commit());
    due(16, x.count(2));
    due(3, x.keysAt(40, 42, 0));
    due(0, x.keysAt(20, 22, 0));
    due(3, x.keysAt(20, 22, 17));
    x.when(0, 0, 0, 0);
    x.then(0, 3, 5);
    x.otherwise(0, 50, 1);
    due(FULL, x.commit());
    x.drop();
    x.then(0, 3, 5);
    due(1, x.commit());
  }

  private static void drop() {
    WatchedKeys x = new WatchedKeys();
    due(0, x.drop());
    x.when(1, 0, 0, 0);
    x.when(1, 0, 0, 0);
    x.then(0, 1, 0);
    x.then(0, 2, 0);
    x.then(0, 3, 0);
    x.otherwise(0, 1, 0);
    due(6, x.drop());
    due("1 0 0 0 0 0 0 0 0 0", counts(x));
    due(1, x.then(0, 1, 0));
    due(1, x.drop());
  }

  private static void writeKey() {
    WatchedKeys x = new WatchedKeys();
    due(0, x.writeKey(5));
    x.grant(5);
    x.put(5, 50, 0);
    due(7, x.writeKey(5));
    due("5:50 v1", output(x));
    x.put(5, -1000000, 1);
    due(16, x.writeKey(5));
    due("5:-1000000 v2 l1", output(x));
    x.put(0, 0, 0);
    due(6, x.writeKey(0));
    due("0:0 v1", output(x));
    x.put(999, 1000000, 0);
    due(14, x.writeKey(999));
    due("999:1000000 v1", output(x));
    due(0, x.writeKey(6));
    due("", output(x));
    x.writeKey(0);
    dueIllegal(() -> x.writeKey(-1));
    dueIllegal(() -> x.writeKey(1000));
    due("0:0 v1", output(x));
    for (int i = 2; i <= 12; i++) {
      x.put(0, 0, 0);
    }
    due(7, x.writeKey(0));
    due("0:0 v12", output(x));
  }

  private static void outputByte() {
    WatchedKeys x = loaded("put 12 -3");
    due(NONE, x.outputByte(0));
    due(8, x.writeKey(12));
    String text = "12:-3 v1";
    for (int i = 0; i < text.length(); i++) {
      due((int) text.charAt(i), x.outputByte(i));
    }
    due(NONE, x.outputByte(8));
    due(NONE, x.outputByte(-1));
    due(NONE, x.outputByte(MOST));
    due(NONE, x.outputByte(LEAST));
  }

  private static WatchedKeys withAll() {
    WatchedKeys x = loaded("put 5 50;put 6 60;grant 9;put 7 70 1;compact 2;watch 0 99 1;put 5 51;tick 3");
    x.take(0);
    x.watch(6, 6, 1, 2);
    x.compact(4);
    x.when(5, 0, 0, 51);
    x.then(0, 8, 80);
    x.otherwise(1, 5, 0);
    return x;
  }

  private static void saveSnapshot() {
    WatchedKeys x = withAll();
    due(5, x.saveSnapshot(0));
    String before = counts(x) + watch(x, 0) + taken(x, 0) + event(x, 0) + x.digest(0);
    due("5 4 3 1 2 1 3 1 1 1", counts(x));
    x.writeKey(5);
    append(x, "tick 1");
    x.commit();
    x.revoke(1);
    x.unwatch(0);
    x.put(5, 52, 0);
    due(8, x.saveSnapshot(1));
    x.delete(0, 999);
    due(5, x.restoreSnapshot(0));
    due(before, counts(x) + watch(x, 0) + taken(x, 0) + event(x, 0) + x.digest(0));
    due(6, x.append(0L));
    due("5:51 v2", output(x));
    due(8, x.restoreSnapshot(1));
    due(52, x.get(5, 0));
    x.put(9, 9, 0);
    due(9, x.saveSnapshot(1));
    x.put(10, 9, 0);
    due(9, x.restoreSnapshot(1));
    dueIllegal(() -> x.saveSnapshot(-1));
    dueIllegal(() -> x.saveSnapshot(2));
  }

  private static void restoreSnapshot() {
    WatchedKeys x = withAll();
    due(NONE, x.restoreSnapshot(0));
    due(5, x.count(0));
    x.saveSnapshot(0);
    due(NONE, x.restoreSnapshot(1));
    x.put(5, 99, 1);
    x.tick(4);
    due(5, x.restoreSnapshot(0));
    due(51, x.getAt(5, 0));
    due(6, x.lease(1, 1));
    due(1, x.lease(1, 2));
    due(1, x.admit(0));
    due(5, x.take(0));
    due(1, x.commit());
    due(2, x.grant(5));
    due(5, x.restoreSnapshot(0));
    due("5 4 3 1 2 1 3 1 1 1", counts(x));
    due(2, x.grant(5));
    due(1, x.watchValue(0, 4));
    due(3, x.taken(0, 0));
    due(2, x.watchValue(1, 2));
    append(x, "tick 1");
    x.load();
    due(5, x.restoreSnapshot(0));
    due(3, x.count(6));
    dueIllegal(() -> x.restoreSnapshot(-1));
    dueIllegal(() -> x.restoreSnapshot(2));
  }

  private static void constants() {
    due(-1, NONE);
    due(-2, FULL);
    due(-3, NO_LEASE);
    due(-4, TWICE);
    due(-5, MISSED);
    due(-2000000001, COMPACTED);
    due(-2000000002, FUTURE);
    due(-2000000000, NO_VALUE);
  }

  public static void main(String[] args) {
    Test[] tests = {
        PromiseTests::newObject, PromiseTests::append, PromiseTests::load,
        PromiseTests::loadError, PromiseTests::loadStatement, PromiseTests::count,
        PromiseTests::get, PromiseTests::getAt, PromiseTests::keysAt, PromiseTests::keyAt,
        PromiseTests::sumAt, PromiseTests::changed, PromiseTests::digest,
        PromiseTests::versionAt, PromiseTests::event, PromiseTests::writes,
        PromiseTests::busiest, PromiseTests::deletedPart, PromiseTests::leader,
        PromiseTests::ahead, PromiseTests::place, PromiseTests::put, PromiseTests::delete,
        PromiseTests::compact, PromiseTests::revert, PromiseTests::attach,
        PromiseTests::watch, PromiseTests::watchValue, PromiseTests::take,
        PromiseTests::taken, PromiseTests::admit, PromiseTests::rewatch,
        PromiseTests::unwatch, PromiseTests::safe, PromiseTests::missing,
        PromiseTests::slowest, PromiseTests::behind, PromiseTests::meanLag,
        PromiseTests::grant, PromiseTests::lease, PromiseTests::keepAlive,
        PromiseTests::revoke, PromiseTests::tick, PromiseTests::expiry,
        PromiseTests::keysIn, PromiseTests::when, PromiseTests::then,
        PromiseTests::otherwise, PromiseTests::holds, PromiseTests::wouldWrite,
        PromiseTests::commit, PromiseTests::drop, PromiseTests::writeKey,
        PromiseTests::outputByte, PromiseTests::saveSnapshot, PromiseTests::restoreSnapshot,
    };
    place = "constants";
    constants();
    int promise = 0;
    for (Test test : tests) {
      promise++;
      place = "promise " + promise;
      try {
        test.run();
      } catch (RuntimeException e) {
        wrong.add(place + ": " + e + " at " + e.getStackTrace()[0]);
      }
    }
    for (String line : wrong) {
      System.out.println(line);
    }
    System.out.println(promise + " promises tested, " + wrong.size() + " answers wrong");
    if (!wrong.isEmpty() || promise != 56) {
      System.exit(1);
    }
  }
}
