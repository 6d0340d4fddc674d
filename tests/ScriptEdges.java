/** Section 1, and promises 1 to 5. */
final class ScriptEdges extends Bench {
  private static final String SIXTEEN =
      "put1 0;put2 0;put3 0;put4 0;put5 0;put6 0;put7 0;put8 0;put9 0;put10 0;put11 0;put12 0;"
          + "put13 0;put14 0;put15 0;put16 0";

  @Holds(at = "Section 1", says =
      "A script is a list of one or more statements, separated by semicolons")
  static void oneOrMoreStatements() {
    dueLoad("tick 1", 1);
    dueLoad("tick 1;tick 1", 2);
    dueLoad("del0;".repeat(99) + "del 0", 100);
    dueError("", 0, 1, 0);
    dueError(" ", 1, 1, 0);
    dueError(";", 0, 1, 0);
    dueError(";tick 1", 0, 1, 0);
    dueError(" ;tick 1", 1, 1, 0);
    dueError("tick 1;", 7, 1, 1);
    dueError("tick 1; ", 8, 1, 1);
    dueError("tick 1;;", 7, 1, 1);
    dueError("tick 1;;tick 1", 7, 1, 1);
    dueError("tick 1; ;tick 1", 8, 1, 1);
    dueError("tick 1 tick 1", 7, 1, 0);
    dueError("tick 1,tick 1", 6, 1, 0);
    dueError("tick 1:tick 1", 6, 1, 0);
    dueError("tick 1<tick 1", 6, 1, 0);
    dueError("del0;".repeat(99) + "del0;", 500, 1, 100);
  }

  @Holds(at = "Section 1", says = "as put(int, int, int), the lease 0 without LEASE")
  static void putOfScripts() {
    WatchedKeys x = loaded("grant 5;put 7 70 1;put 8 80 1;put 8 81;put 9 90 0");
    due("7 70 2 2 1 1", key(x, 7));
    due("8 81 3 4 2 0", key(x, 8));
    due("9 90 5 5 1 0", key(x, 9));
  }

  @Holds(at = "Section 1", says = "as delete(int, int), TO being FROM without it")
  static void deleteOfScripts() {
    due("1 3", keys(loaded("put1 0;put2 0;put3 0;del 2"), 0));
    due("1 3", keys(loaded("put1 0;put2 0;put3 0;del 2 2"), 0));
    due("1", keys(loaded("put1 0;put2 0;put3 0;del 2 3"), 0));
    due("2 3", keys(loaded("put0 0;put2 0;put3 0;del 0"), 0));
    due("", keys(loaded("put0 0;put2 0;put3 0;del 0 999"), 0));
    due(4, loaded("put1 0;put2 0;put3 0;del 4").count(0));
  }

  @Holds(at = "Section 1", says = {
      "grant TTL, keep LEASE and revoke LEASE - as grant(int), keepAlive(int) and revoke(int)",
      "compact REVISION, revert REVISION and tick TICKS - as compact(int), revert(int) and "
      + "tick(int)", "attach KEY LEASE - as attach(int, int)"})
  static void otherStatements() {
    WatchedKeys x = loaded("grant 5;grant 6;grant 7;put 1 1 1;put 2 1;tick 3;keep 1;attach 2 3;"
        + "revoke 2");
    due("5 5 1", lease(x, 1));
    due("-3 -3 -3", lease(x, 2));
    due("7 4 1", lease(x, 3));
    due("3 0 2 2 0 2 3 0 0 0", counts(x));
    x = loaded("put 1 1;put 2 2;put 1 3;compact 2;revert 3");
    due("5 2 2 0 0 3 0 0 0 0", counts(x));
    due("1 1 2 5 3 0", key(x, 1));
    due("1 2", keys(loaded("grant 2;put 1 1 1;put 2 2;attach 1 0;tick 2"), 0));
  }

  @Holds(at = "Section 1", says = "as watch(int, int, int, int), START 0 without it, all events")
  static void watchOfScripts() {
    WatchedKeys x = loaded("put 1 1;watch 1 2;watch 1 2 0;watch 1 2 1;watch 1 2 3;put 2 1;put 3 1;"
        + "del 0 3");
    due("1 2 0 3 0 1 0", watch(x, 0));
    due("1 2 0 3 0 1 0", watch(x, 1));
    due("1 2 0 4 0 1 0", watch(x, 2));
    due("1 2 0 3 0 1 0", watch(x, 3));
    due("3 5 5 -1", takeAll(x, 0));
  }

  @Holds(at = "Section 1", says =
      "A word is a maximal run of lower-case letters, a number a maximal run of digits")
  static void wordsAndNumbers() {
    dueLoad("tick5", 1);
    dueError("ticks 5", 0, 1, 0);
    dueError("tic 5", 0, 1, 0);
    dueError("t ick 5", 0, 1, 0);
    dueError("ticktick 5", 0, 1, 0);
    dueError("ticka 5", 0, 1, 0);
    dueError("tickz 5", 0, 1, 0);
    dueError("atick 5", 0, 1, 0);
    dueError("ztick 5", 0, 1, 0);
    dueError("puttick 5", 0, 1, 0);
    dueError("a 5", 0, 1, 0);
    dueError("zzzz 5", 0, 1, 0);
    dueError("Tick 5", 0, 1, 0);
    dueError("tICK 5", 0, 1, 0);
    dueError("ticK 5", 0, 1, 0);
    dueError("tick`5", 4, 1, 0);
    dueError("tick{5", 4, 1, 0);
    dueError("tick@5", 4, 1, 0);
    dueError("tick[5", 4, 1, 0);
    dueError("tick /5", 5, 1, 0);
    dueError("tick :5", 5, 1, 0);
    dueError("tick 5/", 6, 1, 0);
    dueError("tick 5:", 6, 1, 0);
    dueError("tick 5a", 6, 1, 0);
    dueError("tick 5z", 6, 1, 0);
    dueError("tick 5" + (char) (128 + '5'), 6, 1, 0);
    dueError((char) (128 + 't') + "ick 5", 0, 1, 0);
    for (String statement : new String[] {"put 1 1", "del 1", "grant 1", "keep 1", "revoke 1",
        "watch 1 1", "compact 1", "revert 1", "tick 1", "attach 1 0"}) {
      for (int i = 0; i < statement.indexOf(' '); i++) {
        dueError(statement.substring(0, i) + 'x' + statement.substring(i + 1), 0, 1, 0);
        dueError(statement.substring(0, i) + statement.substring(i + 1), 0, 1, 0);
        dueError(statement.substring(0, i) + 'x' + statement.substring(i), 0, 1, 0);
      }
      for (int i = 1; i < statement.indexOf(' '); i++) {
        dueError(statement.substring(0, i) + ' ' + statement.substring(i), 0, 1, 0);
      }
    }
    due("123", keys(loaded("put 123 4"), 0));
    due(1000, loaded("tick 1000").count(6));
    due(890, loaded("tick 0123;tick 0767").count(6));
  }

  @Holds(at = "Section 1", says =
      "VALUE may have a \"-\" (byte 45) directly before its digits, and begins at it then")
  static void negativeValues() {
    due(-5, loaded("put 1 -5").get(1, 0));
    due(-5, loaded("put 1-5").get(1, 0));
    due(-12, loaded("put 1 -0012").get(1, 0));
    due(0, loaded("put 1 -0").get(1, 0));
    dueError("put 1 -1000001", 6, 2, 0);
    dueError("put 1  -1000001", 7, 2, 0);
    dueError("put 1-1000001", 5, 2, 0);
    dueError("put 1 +5", 6, 1, 0);
    dueError("put 1 ,5", 6, 1, 0);
    dueError("put 1 .5", 6, 1, 0);
    dueError("put -1 5", 4, 1, 0);
    dueError("put 1 5 -0", 8, 1, 0);
    dueError("put 1 -5-0", 8, 1, 0);
    dueError("del -1", 4, 1, 0);
    dueError("del 1 -1", 6, 1, 0);
    dueError("grant -1", 6, 1, 0);
    dueError("keep -1", 5, 1, 0);
    dueError("revoke -1", 7, 1, 0);
    dueError("watch -1 1", 6, 1, 0);
    dueError("watch 1 -1", 8, 1, 0);
    dueError("watch 1 1 -1", 10, 1, 0);
    dueError("compact -1", 8, 1, 0);
    dueError("revert -1", 7, 1, 0);
    dueError("tick -1", 5, 1, 0);
    dueError("attach -1 0", 7, 1, 0);
    dueError("attach 1 -0", 9, 1, 0);
  }

  @Holds(at = "Section 1", says =
      "(a \"-\" without a digit directly behind it: error 1 at the \"-\")")
  static void minusWithoutDigit() {
    dueError("put 1 -", 6, 1, 0);
    dueError("put 1-", 5, 1, 0);
    dueError("put 1 - 5", 6, 1, 0);
    dueError("put 1 - ", 6, 1, 0);
    dueError("put 1 --5", 6, 1, 0);
    dueError("put 1 -x", 6, 1, 0);
    dueError("put 1 -;", 6, 1, 0);
    dueError("put 1 -/", 6, 1, 0);
    dueError("put 1 -:", 6, 1, 0);
  }

  @Holds(at = "Section 1", says =
      "Spaces (byte 32) may stand before and after words, numbers and semicolons")
  static void spaces() {
    dueLoad("  put  1  -5  0  ;  tick   2   ", 2);
    dueLoad("tick1 ;tick1; tick1 ; tick1 ", 4);
    dueLoad(" ".repeat(250) + "tick" + " ".repeat(245) + "7", 1);
    for (int one : new int[] {1, 9, 10, 13, 31, 33, 160, 255}) {
      dueError((char) one + "tick 1", 0, 1, 0);
      dueError("tick" + (char) one + "1", 4, 1, 0);
      dueError("tick 1" + (char) one, 6, 1, 0);
      dueError("tick 1;" + (char) one + "tick 1", 7, 1, 1);
    }
  }

  @Holds(at = "Section 1", says = "they are required only between two numbers (not before a \"-\")")
  static void spacesNeeded() {
    due("1-5", "1" + loaded("grant5;put1-5 1;keep1;put2 5 1;attach1 1;del2;watch0 9;tick3").get(1, 0));
    dueLoad("put0 5;compact1;revert2;revert1;del0 9;grant5;revoke1", 7);
    dueError("put 15", 6, 1, 0);
    dueError("watch 12", 8, 1, 0);
    dueError("attach 10", 9, 1, 0);
    due("12 3 2 2 1 0", key(loaded("put12 3"), 12));
    dueError("put1 25 7", 0, 3, 0);
    due(257, loaded("put1 257").get(1, 0));
  }

  @Holds(at = "Section 1", says = {
      "The text is read from left to right", "each statement is run when all of it has been read",
      "the first error ends it"})
  static void firstError() {
    dueError("tick 0;tick", 5, 2, 0);
    dueError("tick;tick 0", 4, 1, 0);
    dueError("keep 1;tick 0;tick", 0, 3, 0);
    dueError("tick 1;tick 0;keep 1", 12, 2, 1);
    dueError("tick 0 x", 5, 2, 0);
    dueError("put 1000 x", 4, 2, 0);
    dueError("put 1000 1000001", 4, 2, 0);
    dueError("put x 1000001", 4, 1, 0);
    dueError("put 1 5 1 ,", 0, 3, 0);
    dueError("keep 1 ,", 0, 3, 0);
    dueError("grant 5;put 1 1 1;tick 4;put 1 1 1;tick 1;put 1 1 1", 42, 3, 5);
    dueError("compact 2;put 1 1", 0, 3, 0);
    dueLoad("put 1 1;compact 2", 2);
    dueError("put 1 1;put 1 2;compact 2;revert 2;revert 3;revert 1", 44, 3, 5);
  }

  @Holds(at = "Section 1", says =
      "a byte, word or number cannot stand at its place (position of its first byte)")
  static void badPlaces() {
    dueError("!", 0, 1, 0);
    dueError("5 tick", 0, 1, 0);
    dueError("  55", 2, 1, 0);
    dueError("-5", 0, 1, 0);
    dueError(" nothing 5", 1, 1, 0);
    dueError("put !", 4, 1, 0);
    dueError("put  word 5", 5, 1, 0);
    dueError("put put 5", 4, 1, 0);
    dueError("put 1 word", 6, 1, 0);
    dueError("put 1;", 5, 1, 0);
    dueError("put;", 3, 1, 0);
    dueError("put 1 2 0  44", 11, 1, 0);
    dueError("put 1 2  word", 9, 1, 0);
    dueError("del 1 2  33", 9, 1, 0);
    dueError("grant 1 22", 8, 1, 0);
    dueError("grant 1;keep 1 22", 15, 1, 1);
    dueError("grant 1;revoke 1 22", 17, 1, 1);
    dueError("watch 1 2 1 44", 12, 1, 0);
    dueError("watch 1;", 7, 1, 0);
    dueError("compact 1 22", 10, 1, 0);
    dueError("revert 1 22", 9, 1, 0);
    dueError("tick 1  22", 8, 1, 0);
    dueError("put 1 1;attach 1 0 33", 19, 1, 1);
    dueError("attach 1;", 8, 1, 0);
    dueError("tick 1;22", 7, 1, 1);
    dueError("tick 1; word", 8, 1, 1);
  }

  @Holds(at = "Section 1", says = "or the text ends too early (position: its length)")
  static void endsTooEarly() {
    for (String text : new String[] {"put", "put ", "put 1", "put 1  ", "del", "del ", "grant", "keep",
        "revoke", "watch", "watch 1", "watch 1 ", "compact", "revert", "tick", "attach", "attach 1",
        "attach 1 ", "   "}) {
      dueError(text, text.length(), 1, 0);
      dueError("tick 1;" + text, 7 + text.length(), 1, 1);
    }
    dueError(" ".repeat(496) + "tick", 500, 1, 0);
    dueError(" ".repeat(500), 500, 1, 0);
  }

  @Holds(at = "Section 1", says =
      "Error 2: a number is out of the range of its parameter: 0 to 999 for KEY and TO")
  static void keyAndToRanges() {
    dueLoad("put 0 1;put 999 1;attach 0 0;attach 999 0", 4);
    dueError("put 1000 1", 4, 2, 0);
    dueError("put 99999 1", 4, 2, 0);
    dueError("attach 1000 0", 7, 2, 0);
    dueLoad("del 0 0;del 0 999;watch 0 0;watch 0 999", 4);
    dueError("del 0 1000", 6, 2, 0);
    dueError("watch 0 1000", 8, 2, 0);
    dueError("watch 0 1000 1", 8, 2, 0);
  }

  @Holds(at = "Section 1", says = {
      "0 to TO for FROM",
      "(FROM 0 to 999 without TO; at its first byte, but a TO that is less than FROM at that of "
      + "TO)"})
  static void fromRanges() {
    dueLoad("del 0;del 999;del 5 5;del 999 999;del 0 1", 5);
    dueLoad("watch 5 5;watch 999 999;watch 0 1", 3);
    dueError("del 1000", 4, 2, 0);
    dueError("del  1000 ;tick 1", 5, 2, 0);
    dueError("del 1000 1000", 4, 2, 0);
    dueError("del 1000 5", 4, 2, 0);
    dueError("watch 1000 1000", 6, 2, 0);
    dueError("del 5 4", 6, 2, 0);
    dueError("del 1 0", 6, 2, 0);
    dueError("del  5  4", 8, 2, 0);
    dueError("del 999 998", 8, 2, 0);
    dueError("watch 5 4", 8, 2, 0);
    dueError("watch 5  4 1", 9, 2, 0);
    dueError("watch 999 998", 10, 2, 0);
  }

  @Holds(at = "Section 1", says = {
      "-1000000 to 1000000 for VALUE", "1 to 1000 for TTL and TICKS", "1 to 9999 for REVISION",
      "0 to 9999 for LEASE and START"})
  static void otherRanges() {
    due(-1000000, loaded("put 1 -1000000").get(1, 0));
    due(1000000, loaded("put 1 1000000").get(1, 0));
    dueError("put 1 -1000001", 6, 2, 0);
    dueError("put 1 1000001", 6, 2, 0);
    due(1, loaded("grant 1").lease(1, 0));
    due(1000, loaded("grant 1000").lease(1, 0));
    dueError("grant 0", 6, 2, 0);
    dueError("grant 1001", 6, 2, 0);
    due(1001, loaded("tick 1;tick 1000").count(6));
    dueError("tick 0", 5, 2, 0);
    dueError("tick 1001", 5, 2, 0);
    dueLoad("revert 1;compact 1", 2);
    dueError("compact 0", 8, 2, 0);
    dueError("compact 9999", 0, 3, 0);
    dueError("compact 10000", 8, 2, 0);
    dueError("revert 0", 7, 2, 0);
    dueError("revert 9999", 0, 3, 0);
    dueError("revert 10000", 7, 2, 0);
    dueLoad("put 1 1 0;attach 1 0;watch 1 1 0", 3);
    dueError("put 1 1 9999", 0, 3, 0);
    dueError("put 1 1 10000", 8, 2, 0);
    dueError("keep 0", 0, 3, 0);
    dueError("keep 9999", 0, 3, 0);
    dueError("keep 10000", 5, 2, 0);
    dueError("revoke 0", 0, 3, 0);
    dueError("revoke 9999", 0, 3, 0);
    dueError("revoke 10000", 7, 2, 0);
    dueError("put 1 1;attach 1 9999", 8, 3, 1);
    dueError("put 1 1;attach 1 10000", 17, 2, 1);
    dueError("watch 1 1 9999", 0, 3, 0);
    dueError("watch 1 1 10000", 10, 2, 0);
  }

  @Holds(at = "Section 1", says = "(a number is read by as many digits as follow one another)")
  static void manyDigits() {
    due("1 -7 2 2 1 0", key(loaded("put " + "0".repeat(200) + "1 -" + "0".repeat(200) + "7"), 1));
    due(5, loaded("tick " + "0".repeat(490) + "5").count(6));
    String[] great = {"2147483647", "2147483648", "4294967296", "4294967301", "9223372036854775808",
        "18446744073709551616", "18446744073709551621", "10000000000", "99999999999999999999999",
        "1" + "0".repeat(300), "9".repeat(400)};
    for (String number : great) {
      dueError("tick " + number, 5, 2, 0);
      dueError("put " + number + " 1", 4, 2, 0);
      dueError("put 1 " + number, 6, 2, 0);
      dueError("put 1 -" + number, 6, 2, 0);
      dueError("put 1 1 " + number, 8, 2, 0);
      dueError("del 0 " + number, 6, 2, 0);
      dueError("compact " + number, 8, 2, 0);
      dueError("watch 0 1 " + number, 10, 2, 0);
    }
  }

  @Holds(at = "Section 1", says = {
      "Error 3: a statement that is refused: the method returns FULL, NO_LEASE, COMPACTED, FUTURE "
      + "or, of attach, NONE", "(position of the statement's first byte)"})
  static void refusals() {
    dueLoad(SIXTEEN + ";put 16 1", 17);
    dueError(SIXTEEN + "; put 17 1", SIXTEEN.length() + 2, 3, 16);
    dueLoad("grant 1;".repeat(7) + "grant 1", 8);
    dueError("grant 1;".repeat(8) + "grant 1", 64, 3, 8);
    dueLoad("watch 1 1;".repeat(7) + "watch 1 1", 8);
    dueError("watch 1 1;".repeat(8) + " watch 1 1", 81, 3, 8);
    dueError("put 1 1 1", 0, 3, 0);
    dueError("grant 1;  put 1 1 2", 10, 3, 1);
    dueError("  keep 1", 2, 3, 0);
    dueError("revoke 1", 0, 3, 0);
    dueError("put 1 1;attach 1 1", 8, 3, 1);
    dueError("compact 1;compact 1", 10, 3, 1);
    dueError("put 1 1;compact 2;compact 1", 18, 3, 2);
    dueError("put 1 1;compact 2; revert 1", 19, 3, 2);
    dueError("compact 2", 0, 3, 0);
    dueError("revert 2", 0, 3, 0);
    dueLoad("watch 1 1 2;revert 1;compact 1", 3);
    dueError("watch 1 1 3", 0, 3, 0);
    dueError("attach 1 0", 0, 3, 0);
    dueError("put 1 1;del 1;attach 1 0", 14, 3, 2);
    dueLoad("del 1;grant 1;revoke 1;tick 1;put 1 -1;put 2 -2;put 3 -3;put 4 -4;put 5 -5", 9);
  }

  @Holds(at = "Section 1", says =
      "A statement ends where something stands that is none of its numbers; its semicolon is not "
      + "needed for it to be run")
  static void endOfStatement() {
    dueError("keep 1 x", 0, 3, 0);
    dueError("keep 1x", 0, 3, 0);
    dueError("keep 1-", 0, 3, 0);
    dueError("keep 1 2", 0, 3, 0);
    dueError("keep 1", 0, 3, 0);
    dueError("put 1 1 1 1", 0, 3, 0);
    dueError("put 1 1 1;", 0, 3, 0);
    dueError("attach 1 0!", 0, 3, 0);
    dueError("revert 2,", 0, 3, 0);
    dueError("compact 1;compact 1 tick 1", 10, 3, 1);
    dueError("watch 1 1 3 tick", 0, 3, 0);
    dueError("put 1 1 -1", 8, 1, 0);
    dueError("put 1 1 0 tick", 10, 1, 0);
    dueError("del 1 x", 6, 1, 0);
  }

  @Holds(at = "Promise 1", says =
      "Creates a new store, with an empty input buffer, an empty transaction, an empty output and "
      + "no snapshots, at the time 0.")
  static void newObject() {
    WatchedKeys x = new WatchedKeys();
    due("1 0 0 0 0 0 0 0 0 0", counts(x));
    due(0, x.append(0L));
    due(NONE, x.outputByte(0));
    due(NONE, x.restoreSnapshot(0));
    due(NONE, x.restoreSnapshot(1));
    due(0, x.drop());
    due(0, x.loadError());
    due(NONE, x.loadStatement());
    due(1, x.grant(1));
    due(0, x.watch(0, 0, 0, 0));
    due(-100, new WatchedKeys().load());
    WatchedKeys other = new WatchedKeys();
    other.put(1, 1, 0);
    other.saveSnapshot(0);
    due("1 0 0 0 0 0 0 0 0 0", counts(new WatchedKeys()));
    due(NONE, new WatchedKeys().restoreSnapshot(0));
  }

  @Holds(at = "Promise 2", says = {
      "Appends bytes to the input buffer: the 8 bytes of a number, the most significant byte "
      + "first, where bytes that are 0 are left out.", "the bytes"})
  static void appendedBytes() {
    due(0, new WatchedKeys().append(0L));
    for (int shift = 0; shift < 64; shift += 8) {
      WatchedKeys x = new WatchedKeys();
      due(1, x.append(255L << shift));
      due(1, x.append(0L));
      due(2, x.append(1L << shift));
      due(-100, x.load());
      due(7, x.append(-1L ^ 255L << shift));
    }
    due(1, new WatchedKeys().append(Long.MIN_VALUE));
    due(8, new WatchedKeys().append(Long.MAX_VALUE));
    due(8, new WatchedKeys().append(-1L));
    WatchedKeys x = new WatchedKeys();
    due(6, x.append(0x7469_0063_6b20_0037L));
    due(7, x.append(0x0000_0000_0000_0035L));
    due(8, x.append(0x3100_0000_0000_0000L));
    due(1, x.load());
    due(751, x.count(6));
  }

  @Holds(at = "Promise 2", says = {
      "Returns the new length of the buffer", "FULL if it would exceed 500."})
  static void fullBuffer() {
    WatchedKeys x = new WatchedKeys();
    due(500, append(x, " ".repeat(499) + "x"));
    due(FULL, x.append(1L));
    due(FULL, x.append(-1L));
    due(500, x.append(0L));
    due(-599, x.load());
    due(1, x.append(32L));
    due(499, append(x, " ".repeat(492) + "tick 1"));
    due(FULL, x.append(0x3030L));
    due(FULL, x.append(0x3000000000000030L));
    due(500, x.append(0x3000L));
    due(FULL, x.append(0x30L));
    due(1, x.load());
    due(10, x.count(6));
    append(x, " ".repeat(496));
    due(FULL, x.append(0x2020202020L));
    due(500, x.append(0x20202020L));
  }

  @Holds(at = "Promise 3", says =
      "Reads the input buffer as a script (section 1), which is run on a new store, at the time 0 "
      + "and with an empty transaction; that takes the place of the present one.")
  static void loadsNewStore() {
    WatchedKeys x = rich();
    append(x, ";tick 2");
    due(2, x.load());
    due("2 0 1 0 0 1 2 0 0 0", counts(x));
    due("2 0 5 5 " + NO_VALUE + " 0", event(x, 0));
    due(0, x.drop());
    due(1, x.grant(5));
    due(0, x.watch(5, 5, 1, 0));
    due("5 5 0 1 0 1 0", watch(x, 0));
    due(NO_VALUE, x.taken(0, 0));
    x = rich();
    append(x, ";tick 2");
    due(2, x.load());
    append(x, "compact 1");
    due(1, x.load());
    due("1 1 0 0 0 0 0 0 0 0", counts(x));
    due(1, x.grant(5));
    append(x, "revert 1;put 1 1");
    due(2, x.load());
    due("2 0 1 0 0 1 0 0 0 0", counts(x));
  }

  @Holds(at = "Promise 3", says = {
      "The buffer is emptied, also on an error.", "The snapshots and the output stay."})
  static void emptiesBuffer() {
    WatchedKeys x = rich();
    due(1, x.load());
    due(0, x.append(0L));
    due("5:51 v2 l1", output(x));
    due(NONE, x.restoreSnapshot(1));
    due(7, x.restoreSnapshot(0));
    due(3, x.count(2));
    for (String text : new String[] {"tick", "tick 0", "keep 1", "put 1 1;word"}) {
      append(x, text);
      due(true, x.load() < 0);
      due(0, x.append(0L));
      due(-100, x.load());
      due("5:51 v2 l1", output(x));
    }
    String[][] later = {{"tick 55", "tick 5", "1"}, {"tick 55", "tick ", "-105"},
        {"put 1 -5", "put 1 -", "-106"}, {"put 1 -5", "put 1 ", "-106"},
        {"tick 5;tick 5", "tick 5;", "-107"},
        {"put 1 5 0", "put 1 5 ", "1"}, {"put 1 5 1", "put 1 5", "1"}, {"del 1 9", "del 1", "1"}};
    for (String[] one : later) {
      append(x, one[0]);
      x.load();
      append(x, one[1]);
      due(one[1] + " " + one[2], one[1] + " " + x.load());
    }
    append(x, " ".repeat(500));
    due(-600, x.load());
    due(8, x.append(-1L));
  }

  @Holds(at = "Promise 3", says =
      "Returns the number of statements; -100 minus the position of the error if the text has "
      + "one, and then nothing but the buffer and the results of loadError() and loadStatement() "
      + "changes.")
  static void loadsNothingWithError() {
    String[] texts = {"x", ";put 1 1;grant 5;watch 0 9;tick 5;compact 2;", ";keep 1", ";put 1 1000001",
        ";put 1 1;del 1;attach 1 1", ";grant 3;tick 3;keep 1"};
    int[] positions = {7, 51, 8, 14, 22, 23};
    for (int i = 0; i < texts.length; i++) {
      WatchedKeys x = rich();
      append(x, texts[i]);
      String before = stored(x) + output(x);
      due(-100 - positions[i], x.load());
      due(before, stored(x) + output(x));
      due(0, x.append(0L));
      due(7, x.restoreSnapshot(0));
      due(NONE, x.restoreSnapshot(1));
    }
    dueLoad("put 1 1", 1);
    dueLoad("put 1 1;put 1 1;put 1 1;del 1", 4);
  }

  @Holds(at = "Promise 4", says = {
      "Returns the kind of the error of the latest call of load().",
      "Returns 1 to 3 (section 1); 0 if the text had no error or there was no such call."})
  static void kindOfError() {
    WatchedKeys x = new WatchedKeys();
    due(0, x.loadError());
    String[] texts = {"tick", "tick 0", "keep 1", "tick 1", "keep 1", "tick 0", "tick", "", "tick 1"};
    int[] kinds = {1, 2, 3, 0, 3, 2, 1, 1, 0};
    for (int i = 0; i < texts.length; i++) {
      append(x, texts[i]);
      x.load();
      due(kinds[i], x.loadError());
      due(kinds[i], x.loadError());
    }
    x.saveSnapshot(0);
    append(x, "tick 0");
    due(0, x.loadError());
    x.load();
    x.restoreSnapshot(0);
    x.put(1, 1, 0);
    x.append(32L);
    due(2, x.loadError());
  }

  @Holds(at = "Promise 5", says = {
      "Returns in which statement the latest call of load() found its error.",
      "Returns the index of the statement, from 0; NONE if the text had no error or there was no "
      + "such call."})
  static void statementOfError() {
    WatchedKeys x = new WatchedKeys();
    due(NONE, x.loadStatement());
    String[] texts = {"tick 0", "tick 1", "tick 1;tick 0", "tick 1;tick 1;keep 1;tick 1",
        "tick 1;tick 1", "tick", ""};
    int[] statements = {0, NONE, 1, 2, NONE, 0, 0};
    for (int i = 0; i < texts.length; i++) {
      append(x, texts[i]);
      x.load();
      due(statements[i], x.loadStatement());
      due(statements[i], x.loadStatement());
    }
    x.saveSnapshot(0);
    x.restoreSnapshot(0);
    x.append(32L);
    due(0, x.loadStatement());
  }

  @Holds(at = "Promise 5", says =
      "A byte behind a statement that is no semicolon belongs to that statement; what follows a "
      + "semicolon belongs to the next one.")
  static void bytesBehindStatements() {
    dueError("tick 1!", 6, 1, 0);
    dueError("tick 1  tick 1", 8, 1, 0);
    dueError("tick 1;tick 1 !", 14, 1, 1);
    dueError("tick 1;!", 7, 1, 1);
    dueError("tick 1;", 7, 1, 1);
    dueError("tick 1;  ", 9, 1, 1);
    dueError("tick 1;tick 1; ;", 15, 1, 2);
    dueError("tick 1;tick;", 11, 1, 1);
  }
}
