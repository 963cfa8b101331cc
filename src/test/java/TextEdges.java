/** The edges of a text: its head, its rows, and where it is torn (Terms, promises 4 and 5). */
final class TextEdges {
  private static final int NONE = StuckHands.NONE;
  private static final String DIGITS = "0123456789";
  private static final String LETTERS = "abcdefghijklmnopqrstuvwxyz";

  private TextEdges() {
  }

  private static void tornAt(Due due, String text, int want) {
    StuckHands x = new StuckHands();
    due.is("picture of '" + text + "'", Due.show(x, text), 0);
    due.is("torn of '" + text + "'", x.torn(0), want);
  }

  private static void whole(Due due, String... texts) {
    for (String text : texts) tornAt(due, text, NONE);
  }

  private static void tornHeads(Due due, String... heads) {
    for (String head : heads) {
      StuckHands x = new StuckHands();
      due.is("picture of '" + head + "'", Due.show(x, head), -2);
      due.is("pictures after '" + head + "'", x.count(NONE, 0), 0);
    }
  }

  /** Each byte behind the start: those that may stand there lead on, all others are where the text is torn. */
  private static void onlyBehind(Due due, String start, String allowed) {
    for (char each = 0; each < 256; each++) {
      StuckHands x = Due.reader(start + each);
      String call = "torn of '" + start + "' and byte " + (int) each;
      if (allowed.indexOf(each) < 0) due.is(call, x.torn(0), start.length());
      else due.is(call + " leads on", x.torn(0) == NONE || x.torn(0) == start.length() + 1, true);
    }
  }

  static void rowsBehindSemicolons(Due due) {
    due.is("a head alone", Due.reader("t1").count(0, 1), 0);
    due.is("one row", Due.reader("t1;0R1").count(0, 1), 1);
    due.is("two rows", Due.reader("t1;0R1;1R1").count(0, 1), 2);
    tornAt(due, "t1;", 3);
    tornAt(due, "t1;;0R1", 3);
    tornAt(due, "t1;0R1;", 7);
    tornAt(due, "t1;0R1;;1R1", 7);
    tornAt(due, "t1;0R1:1R1", 6);
    tornAt(due, "t1;0R1,1R1", 6);
    tornHeads(due, ";0R1", ";t1", "0R1", "t1,0R1", "t1:0R1", "t1\u00bb0R1");
  }

  static void noBlanks(Due due) {
    tornHeads(due, " t1", "t 1", "t1 ", "t1 ;0R1", "t1\t", "t1\n");
    String row = "t1;0W1h2,3w4cab";
    for (int at = 3; at <= row.length(); at++) {
      tornAt(due, row.substring(0, at) + " " + row.substring(at), at);
      tornAt(due, row.substring(0, at) + "\t" + row.substring(at), at);
    }
  }

  static void headBegins(Due due) {
    for (char each = 0; each < 256; each++) {
      due.is("picture of byte " + (int) each + " and 1", Due.show(new StuckHands(), each + "1"), each == 't' ? 0 : -2);
    }
    tornHeads(due, "", "1", "tt1", "T1");
  }

  static void ticks(Due due) {
    tornHeads(due, "t", "t;", "t;0R1", "t12345", "t00000", "t10000", "t00001;0R1", "t-1", "t+1", "t1.0");
    String[] heads = {"t0", "t9", "t10", "t99", "t100", "t999", "t1000", "t9999", "t00", "t0000", "t0001", "t007"};
    int[] ticks = {0, 9, 10, 99, 100, 999, 1000, 9999, 0, 0, 1, 7};
    for (int i = 0; i < heads.length; i++) {
      StuckHands x = new StuckHands();
      due.is("picture of " + heads[i], Due.show(x, heads[i]), 0);
      due.is("tick of " + heads[i], x.count(0, 0), ticks[i]);
    }
  }

  static void behindTheTick(Due due) {
    for (char each = 0; each < 256; each++) {
      boolean isDigit = DIGITS.indexOf(each) >= 0;
      due.is("picture of t123 and byte " + (int) each, Due.show(new StuckHands(), "t123" + each), isDigit || each == ';' ? 0 : -2);
      due.is("picture of t1234 and byte " + (int) each, Due.show(new StuckHands(), "t1234" + each), each == ';' ? 0 : -2);
    }
    due.is("picture of t1234, the end behind it", Due.show(new StuckHands(), "t1234"), 0);
    tornHeads(due, "t1x;0R1", "t1R1", "t1w");
  }

  static void threads(Due due) {
    onlyBehind(due, "t1;", DIGITS);
    onlyBehind(due, "t1;1", DIGITS + "RWSF");
    onlyBehind(due, "t1;10", "RWSF");
    for (int t = 0; t < 24; t++) due.is("thread " + t, Due.reader("t1;" + t + "R1").look(0, t, 0), 0);
    for (int t = 0; t < 10; t++) due.is("thread 0" + t, Due.reader("t1;0" + t + "R1").look(0, t, 0), 0);
    for (int t = 24; t < 100; t++) tornAt(due, "t1;" + t + "R1", 3);
    tornAt(due, "t1;R1", 3);
    tornAt(due, "t1;-1R1", 3);
  }

  static void states(Due due) {
    onlyBehind(due, "t1;10", "RWSF");
    onlyBehind(due, "t1;0R1;11", "RWSF");
    String[] rows = {"0R1", "0W1w1", "0S1w1", "0F1"};
    for (int state = 0; state < 4; state++) due.is("state of " + rows[state], Due.reader("t1;" + rows[state]).look(0, 0, 0), state);
    tornAt(due, "t1;0RR1", 5);
    tornAt(due, "t1;01", 5);
  }

  static void counters(Due due) {
    for (char state : "RWSF".toCharArray()) onlyBehind(due, "t1;0" + state, DIGITS);
    onlyBehind(due, "t1;0R123", DIGITS + "hc;");
    onlyBehind(due, "t1;0R1234", "hc;");
    onlyBehind(due, "t1;0W1234", "hw");
    String[] counters = {"0", "9", "10", "99", "100", "999", "1000", "9999", "0000", "0009"};
    for (String counter : counters) {
      due.is("counter " + counter, Due.reader("t1;0R" + counter).look(0, 0, 1), Integer.parseInt(counter));
    }
  }

  static void partsThatMayBeThere(Due due) {
    whole(due, "t1;0R1", "t1;0R1h1", "t1;0R1ca", "t1;0R1h1ca", "t1;0F1", "t1;0F1h1ca");
    whole(due, "t1;0W1w2", "t1;0W1h1w2", "t1;0W1w2ca", "t1;0S1h1w2ca");
    tornAt(due, "t1;0R1cah1", 9);
    tornAt(due, "t1;0W1w2h1", 8);
    tornAt(due, "t1;0R1h1h2", 8);
    tornAt(due, "t1;0W1w2w2", 8);
    tornAt(due, "t1;0W1w2caw2", 11);
  }

  static void heldLocks(Due due) {
    onlyBehind(due, "t1;0R1h", DIGITS);
    onlyBehind(due, "t1;0R1h0", DIGITS + ",c;");
    onlyBehind(due, "t1;0W1h0", DIGITS + ",w");
    onlyBehind(due, "t1;0R1h10", ",c;");
    onlyBehind(due, "t1;0W1h10", ",w");
    for (int l = 0; l < 16; l++) due.is("lock " + l, Due.reader("t1;0R1h" + l).look(0, 0, 2), 1 << l);
    for (int l = 0; l < 10; l++) due.is("lock 0" + l, Due.reader("t1;0R1h0" + l).look(0, 0, 2), 1 << l);
    for (int l = 16; l < 100; l++) tornAt(due, "t1;0R1h" + l, 7);
  }

  static void fourLocksAndCommas(Due due) {
    due.is("one lock", Due.reader("t1;0R1h1").look(0, 0, 2), 2);
    due.is("two locks", Due.reader("t1;0R1h1,15").look(0, 0, 2), 0x8002);
    due.is("three locks", Due.reader("t1;0R1h1,15,0").look(0, 0, 2), 0x8003);
    due.is("four locks", Due.reader("t1;0R1h1,15,0,10").look(0, 0, 2), 0x8403);
    onlyBehind(due, "t1;0R1h10", ",c;");
    onlyBehind(due, "t1;0W1h10,11", ",w");
    onlyBehind(due, "t1;0R1h10,11,12", ",c;");
    onlyBehind(due, "t1;0R1h1,15,0,10", "c;");
    onlyBehind(due, "t1;0W1h1,15,0,10", "w");
    onlyBehind(due, "t1;0R1h12,", DIGITS);
    tornAt(due, "t1;0R1h1,2,3,4,5", 14);
    tornAt(due, "t1;0W1h1,2,3,4,5w6", 14);
    tornAt(due, "t1;0R1h", 7);
    tornAt(due, "t1;0R1h;", 7);
    tornAt(due, "t1;0W1hw1", 7);
    tornAt(due, "t1;0R1h,1", 7);
    tornAt(due, "t1;0R1h1,", 9);
    tornAt(due, "t1;0R1h1,,2", 9);
    tornAt(due, "t1;0W1h1,w2", 9);
  }

  static void waitedLocks(Due due) {
    onlyBehind(due, "t1;0W1w", DIGITS);
    onlyBehind(due, "t1;0S1h2w", DIGITS);
    onlyBehind(due, "t1;0W1w0", DIGITS + "c;");
    onlyBehind(due, "t1;0W1w10", "c;");
    for (int l = 0; l < 16; l++) due.is("waits at " + l, Due.reader("t1;0W1w" + l).look(0, 0, 3), l);
    for (int l = 16; l < 100; l++) tornAt(due, "t1;0S1w" + l, 7);
    tornAt(due, "t1;0W1w1,2", 8);
  }

  static void calls(Due due) {
    onlyBehind(due, "t1;0R1c", LETTERS);
    onlyBehind(due, "t1;0W1w1c", LETTERS);
    onlyBehind(due, "t1;0R1ca", LETTERS + ";");
    onlyBehind(due, "t1;0R1cabcdefghijk", LETTERS + ";");
    onlyBehind(due, "t1;0R1cabcdefghijkl", ";");
    for (int n = 1; n <= 12; n++) due.is(n + " calls", Due.reader("t1;0R1c" + LETTERS.substring(0, n)).look(0, 0, 4), n);
    due.is("letters of other parts are calls, too", Due.reader("t1;0W1w1chwct").look(0, 0, 4), 4);
    tornAt(due, "t1;0R1c", 7);
    tornAt(due, "t1;0R1c;1R1", 7);
    tornAt(due, "t1;0R1cabcdefghijklm", 19);
    tornAt(due, "t1;0R1cabcdefghijklm;1R1", 19);
    tornAt(due, "t1;0R1ca,b", 8);
  }

  static void outermostFirst(Due due) {
    StuckHands x = Due.reader("t1;0R1czay");
    due.is("call 0", x.look(0, 0, 10), 'z');
    due.is("call 1", x.look(0, 0, 11), 'a');
    due.is("call 2", x.look(0, 0, 12), 'y');
  }

  static void waitersHaveW(Due due) {
    whole(due, "t1;0W1w0", "t1;0S1w0", "t1;0W1h1w0ca", "t1;0S1h1w0ca");
    for (char state : "WS".toCharArray()) {
      onlyBehind(due, "t1;0" + state + "1234", "hw");
      onlyBehind(due, "t1;0" + state + "1h10", ",w");
      due.is("a row without w does not stand", Due.reader("t1;0" + state + "1").count(0, 1), 0);
    }
  }

  static void othersHaveNoW(Due due) {
    whole(due, "t1;0R1", "t1;0F1", "t1;0R1h1ca", "t1;0F1h1ca");
    for (char state : "RF".toCharArray()) {
      onlyBehind(due, "t1;0" + state + "1234", "hc;");
      onlyBehind(due, "t1;0" + state + "1h10", ",c;");
      due.is("a row with w does not stand", Due.reader("t1;0" + state + "1w2").count(0, 1), 0);
    }
  }

  static void firstFaultCounts(Due due) {
    tornAt(due, "t1;0X1;24R1", 4);
    tornAt(due, "t1;24X1", 3);
    tornAt(due, "t1;0R1;1R1w3;0R1;x", 10);
    tornAt(due, "t1;0R1h16,16", 7);
    tornAt(due, "t1;0R1h1,1,16", 9);
    tornAt(due, "t1;0R1;0X", 7);
    tornAt(due, "t1;0R1h3;1W1h3", 13);
    StuckHands x = Due.reader("t1;4R1;5R1!;6R1;7R1");
    due.is("torn of the second row", x.torn(0), 10);
    due.is("what is behind it is not read", x.count(0, 1), 1);
    due.is("what is ahead of it is", x.look(0, 4, 0), 0);
  }

  static void tooGreat(Due due) {
    tornAt(due, "t1;24R1", 3);
    tornAt(due, "t1;99", 3);
    tornAt(due, "t1;0R1;24R1", 7);
    tornAt(due, "t1;0R1;30", 7);
    tornAt(due, "t1;0R1h16", 7);
    tornAt(due, "t1;0R1h99;", 7);
    tornAt(due, "t1;0R1h1,16", 9);
    tornAt(due, "t1;0R1h1,2,3,16", 13);
    tornAt(due, "t1;0W1w16", 7);
    tornAt(due, "t1;0S1h1w99c", 9);
    whole(due, "t1;23R1", "t1;0R1h15", "t1;0R1h1,15", "t1;0W1w15", "t1;0R9999");
  }

  static void tooManyDigits(Due due) {
    for (String number : new String[] {"000", "001", "023", "230", "240", "999", "0000000"}) {
      tornAt(due, "t1;" + number + "R1", 5);
      tornAt(due, "t1;0R1;" + number + "R1", 9);
      tornAt(due, "t1;0R1h" + number, 9);
      tornAt(due, "t1;0R1h0," + number, 11);
      tornAt(due, "t1;0W1w" + number, 9);
    }
    for (String number : new String[] {"00000", "00001", "10000", "99999", "0000000000", "4294967297"}) {
      tornAt(due, "t1;0R" + number, 9);
      tornAt(due, "t1;0W" + number + "w1", 9);
      tornHeads(due, "t" + number);
    }
  }

  static void threadTwice(Due due) {
    tornAt(due, "t1;0R1;0R1", 7);
    tornAt(due, "t1;0R1;00R1", 7);
    tornAt(due, "t1;00R1;0F2", 8);
    tornAt(due, "t1;23R1;23R1", 8);
    tornAt(due, "t1;5R1;6R1;5", 11);
    tornAt(due, "t1;5R1;05;", 7);
    whole(due, "t1;1R1;11R1", "t1;2R1;20R1;0R1");
    StuckHands x = Due.reader("t1;5R1", "t2;5R2", "t3;5W1;5R1");
    due.is("a thread of another picture is none of this one", x.torn(1), NONE);
    due.is("it is there", x.look(1, 5, 1), 2);
    due.is("the first row of it stands", Due.reader("t1;5R1;5R2").look(0, 5, 1), 1);
    due.is("a thread whose row is torn is torn there, not behind", x.torn(2), 6);
  }

  static void lockTwice(Due due) {
    tornAt(due, "t1;0R1h1,1", 9);
    tornAt(due, "t1;0R1h1,01", 9);
    tornAt(due, "t1;0R1h15,2,3,15", 14);
    tornAt(due, "t1;0R1h0,0", 9);
    tornAt(due, "t1;0R1h1;1R1h1", 13);
    tornAt(due, "t1;0R1h1;1W1h2,1w3", 15);
    tornAt(due, "t1;0R1h0;1F1h00", 13);
    tornAt(due, "t1;0R1h1;1R1;2R1;3R1h1", 21);
    whole(due, "t1;0R1h1,11", "t1;0W1h1w1", "t1;0R1h1;1W1w1;2S1w1", "t1;1W1w1;2S1w1;0R1h1");
    StuckHands x = Due.reader("t1;0R1h1", "t2;1R1h1", "t3;2R1h4,4", "t4;2R1h4");
    due.is("a lock held in another picture is free in this one", x.torn(1), NONE);
    due.is("a lock of a torn row is free in the next picture", x.torn(3), NONE);
    due.is("the first holder stands", Due.reader("t1;0R1h1;1R1h1").holder(0, 1), 0);
  }

  static void wOfOthers(Due due) {
    for (String state : new String[] {"R", "F"}) {
      tornAt(due, "t1;0" + state + "1w1", 6);
      tornAt(due, "t1;0" + state + "1w", 6);
      tornAt(due, "t1;0" + state + "1w99", 6);
      tornAt(due, "t1;0" + state + "9999w1", 9);
      tornAt(due, "t1;0" + state + "1h1w2", 8);
      tornAt(due, "t1;0" + state + "1h1,2,3,4w5", 14);
      whole(due, "t1;0" + state + "1cw");
    }
  }

  static void endWithoutW(Due due) {
    for (String state : new String[] {"W", "S"}) {
      for (String behind : new String[] {"", ";", ";1R1", "c", "cab", "cw1"}) {
        tornAt(due, "t1;0" + state + "1" + behind, 6);
        tornAt(due, "t1;0" + state + "1234" + behind, 9);
        tornAt(due, "t1;0" + state + "1h2" + behind, 8);
        tornAt(due, "t1;0" + state + "1h2,3,4,15" + behind, 15);
      }
    }
  }

  static void endTooEarly(Due due) {
    String text = "t12;10W1234h10,11w12cab;3R5";
    boolean[] isWhole = new boolean[text.length() + 1];
    for (int n : new int[] {2, 3, 19, 20, 22, 23, 27}) isWhole[n] = true;
    for (int n = 2; n <= text.length(); n++) {
      StuckHands x = new StuckHands();
      Due.feed(x, text);
      due.is("picture of " + n, x.picture(n), 0);
      due.is("torn of " + text.substring(0, n), x.torn(0), isWhole[n] ? NONE : n);
    }
    String full = TapeEdges.longestText();
    tornAt(due, full.substring(0, 299) + ";", 300);
    tornAt(due, full.substring(0, 298) + ";", 299);
  }

  static void rowsAheadStand(Due due) {
    StuckHands x = Due.reader("t1;5R1h1;6W2h2w1ca;7S3h3w2c", "t2;0R1x", "t3;0R1;", "t4;0R1cabcdefghijklm", "t5;8R1;9R1;8R2;10R1");
    due.is("torn at the end", x.torn(0), 27);
    due.is("two rows stand", x.count(0, 1), 2);
    due.is("the first", x.look(0, 5, 2), 2);
    due.is("the second", x.look(0, 6, 10), 'a');
    due.is("the torn one is not there", x.look(0, 7, 0), NONE);
    due.is("it holds nothing", x.holder(0, 3), NONE);
    due.is("it does not wait", x.weight(0, 2), 0);
    due.is("one waits", x.count(0, 2), 1);
    due.is("two locks are held", x.count(0, 3), 2);
    due.is("a first row that is torn is not there", x.count(1, 1), 0);
    due.is("a row with ; behind it stands", x.count(2, 1), 1);
    due.is("one with too many calls does not", x.count(3, 1), 0);
    due.is("rows ahead of a thread that is there twice", x.count(4, 1), 2);
    due.is("its first row stands as it was", x.look(4, 8, 1), 1);
    due.is("rows behind do not", x.look(4, 10, 0), NONE);
  }

  static void tornPlace(Due due) {
    StuckHands x = Due.reader("t1;", "t2;0R1;1X", "t3", "t0004;x");
    due.is("torn 0", x.torn(0), 3);
    due.is("torn 1", x.torn(1), 8);
    due.is("torn 3", x.torn(3), 6);
    due.is("places count from the head's first byte, as 0", Due.reader("t1;!").torn(0), 3);
  }

  static void tornNowhere(Due due) {
    StuckHands x = Due.reader("t1", "t2;0R1", TapeEdges.longestText());
    due.is("a head alone", x.torn(0), NONE);
    due.is("a row", x.torn(1), NONE);
    due.is("300 bytes", x.torn(2), NONE);
  }

  static void tornOfNone(Due due) {
    due.is("torn 0 of a new object", new StuckHands().torn(0), NONE);
    StuckHands x = Due.reader("t1;x", "t1;x", "x");
    due.is("torn 1: it was not taken", x.torn(1), NONE);
    due.is("torn -1", x.torn(-1), NONE);
    for (int p : Odd.PICTURES) due.is("torn " + p, x.torn(p), NONE);
  }

  static void lookState(Due due) {
    StuckHands x = Due.reader("t1;0R1;1W1w2;22S1w2;23F1");
    due.is("R", x.look(0, 0, 0), 0);
    due.is("W", x.look(0, 1, 0), 1);
    due.is("S", x.look(0, 22, 0), 2);
    due.is("F", x.look(0, 23, 0), 3);
  }

  static void lookCounter(Due due) {
    StuckHands x = Due.reader("t1;0R0;1R9999;2W0042w1");
    due.is("least", x.look(0, 0, 1), 0);
    due.is("greatest", x.look(0, 1, 1), 9999);
    due.is("with noughts", x.look(0, 2, 1), 42);
    x.meter(10, 0);
    due.is("as it stands, not by its rest", x.look(0, 1, 1), 9999);
  }

  static void lookHeld(Due due) {
    StuckHands x = Due.reader("t1;0R1;1R1h15;2R1h0;3W1h8,1,7,14w3");
    due.is("none", x.look(0, 0, 2), 0);
    due.is("the highest", x.look(0, 1, 2), 1 << 15);
    due.is("the lowest", x.look(0, 2, 2), 1);
    due.is("four, and not the one waited at", x.look(0, 3, 2), 1 << 1 | 1 << 7 | 1 << 8 | 1 << 14);
  }

  static void lookWaited(Due due) {
    StuckHands x = Due.reader("t1;0R1h4;1W1w0;2S1h3w15;3F1");
    due.is("R", x.look(0, 0, 3), NONE);
    due.is("lock 0", x.look(0, 1, 3), 0);
    due.is("lock 15", x.look(0, 2, 3), 15);
    due.is("F", x.look(0, 3, 3), NONE);
  }

  static void lookCalls(Due due) {
    StuckHands x = Due.reader("t1;0R1;1R1ca;2R1cabcdefghijkl");
    due.is("none", x.look(0, 0, 4), 0);
    due.is("one", x.look(0, 1, 4), 1);
    due.is("twelve", x.look(0, 2, 4), 12);
  }

  static void lookCall(Due due) {
    StuckHands x = Due.reader("t1;0R1;1R1ca;2R1czyxwvutsrqpo");
    for (int i = 0; i < 12; i++) due.is("call " + i, x.look(0, 2, 10 + i), 'z' - i);
    due.is("call 12 of twelve", x.look(0, 2, 22), NONE);
    due.is("call 0 of one", x.look(0, 1, 10), 'a');
    due.is("call 1 of one", x.look(0, 1, 11), NONE);
    due.is("call 0 of none", x.look(0, 0, 10), NONE);
  }

  static void lookOthers(Due due) {
    StuckHands x = Due.reader("t1;0W1h1w2cabcdefghijkl");
    for (int what = 5; what < 10; what++) due.is("look at " + what, x.look(0, 0, what), NONE);
    for (int what : new int[] {-1, -2, -10, 22, 23, 256, 266, Integer.MIN_VALUE, Integer.MIN_VALUE + 10, Integer.MAX_VALUE}) {
      due.is("look at " + what, x.look(0, 0, what), NONE);
    }
  }

  static void lookAtNone(Due due) {
    StuckHands x = Due.reader("t1;0R1;23R1x", "t2;5R1");
    for (int what : new int[] {0, 1, 2, 3, 4, 10}) {
      due.is("a thread that the picture has not", x.look(0, 5, what), NONE);
      due.is("a thread whose row is torn", x.look(0, 23, what), NONE);
      due.is("a picture that is not there", x.look(2, 0, what), NONE);
      due.is("picture -1", x.look(-1, 0, what), NONE);
    }
    for (int t : Odd.THREADS) due.is("thread " + t, x.look(0, t, 0), NONE);
    for (int p : Odd.PICTURES) due.is("picture " + p, x.look(p, 0, 0), NONE);
  }
}
