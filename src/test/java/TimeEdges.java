/** The edges of what several pictures tell together: order, stuck threads, orders of locks, work (promises 13 to 16, 20, 21). */
final class TimeEdges {
  private static final int NONE = StuckHands.NONE;
  private static final int[] NO_WHAT = {-1, -2, 4, 5, 256, Integer.MIN_VALUE, Integer.MAX_VALUE};

  private TimeEdges() {
  }

  private static void broken(Due due, String what, StuckHands x, int... locks) {
    for (int i = 0; i < locks.length; i++) due.is(what + ": broken " + i, x.broken(i), locks[i]);
    due.is(what + ": broken ends", x.broken(locks.length), NONE);
  }

  private static void work(Due due, StuckHands x, int t, int p, int q, int least, int greatest, int numbers) {
    int[] want = {least, greatest, numbers};
    for (int what = 0; what < 3; what++) {
      due.is("work " + t + " " + p + " " + q + " " + what, x.work(t, p, q, what), want[what]);
      due.is("work " + t + " " + q + " " + p + " " + what, x.work(t, q, p, what), want[what]);
    }
  }

  private static void stuck(Due due, String one, String other, boolean isStuck) {
    due.is(one + " and " + other, Due.reader("t1;" + one, "t2;" + other).stuck(0), isStuck ? Integer.parseInt(one.substring(0, 1)) : NONE);
  }

  static String allThreads(int tick) {
    StringBuilder text = new StringBuilder("t").append(tick);
    for (int t = 23; t >= 0; t--) text.append(";").append(t).append("R").append(t);
    return text.toString();
  }

  static void eightPictures(Due due) {
    StuckHands x = new StuckHands();
    int[] ticks = {9999, 3, 0, 7, 500, 1, 42, 2};
    for (int p = 0; p < 8; p++) due.is("picture " + p, Due.show(x, "t" + ticks[p]), p);
    due.is("a ninth", Due.show(x, "t8"), NONE);
    for (int p = 0; p < 8; p++) due.is("tick of picture " + p, x.count(p, 0), ticks[p]);
    due.is("picture 8", x.count(8, 0), NONE);
  }

  static void oneOfATick(Due due) {
    StuckHands x = Due.reader("t0;0R1", "t9999;1R1");
    for (String text : new String[] {"t0", "t0000", "t00;5R1", "t9999"}) due.is("picture of " + text, Due.show(x, text), -2);
    due.is("pictures", x.count(NONE, 0), 2);
    due.is("another tick", Due.show(x, "t9998"), 2);
  }

  static void orderByTicks(Due due) {
    StuckHands x = Due.reader("t50", "t7", "t9999", "t0", "t300", "t8", "t49", "t51");
    int[] want = {3, 1, 5, 6, 0, 7, 4, 2};
    for (int i = 0; i < 8; i++) due.is("order " + i, x.order(i), want[i]);
  }

  static void stuckInTwo(Due due) {
    StuckHands x = new StuckHands();
    Due.show(x, "t1;0R1;1R1");
    due.is("one picture has it", x.stuck(0), NONE);
    Due.show(x, "t2;1R1");
    due.is("two have it", x.stuck(0), 1);
    due.is("the other is in one alone", x.stuck(1), NONE);
    Due.show(x, "t3;0R1x");
    due.is("a torn row does not count", x.stuck(0), 1);
    Due.show(x, "t0;0R1");
    due.is("two that are not neighbours", x.stuck(0), 0);
  }

  static void stuckInAll(Due due) {
    StuckHands x = new StuckHands();
    for (int p = 0; p < 7; p++) Due.show(x, "t" + p + ";4R1;5R1" + (p % 2 == 0 ? ";6R2" : ""));
    due.is("seven alike", x.stuck(0), 4);
    due.is("those that have it not don't count", x.stuck(2), 6);
    Due.show(x, "t9;4R1;5R2");
    due.is("the eighth is alike", x.stuck(0), 4);
    due.is("the eighth is not", x.stuck(1), 6);
    StuckHands y = Due.reader("t5;0R1", "t6;0R2", "t7;0R2", "t8;0R2");
    due.is("the first is not alike", y.stuck(0), NONE);
    StuckHands z = Due.reader("t1;0R1", "t2;0R2", "t3;0R1");
    due.is("the one between is not alike", z.stuck(0), NONE);
  }

  static void stuckAlike(Due due) {
    String full = "3W5h1,2w4cab";
    stuck(due, full, full, true);
    stuck(due, full, "3W5h2,1w4cab", true);
    stuck(due, full, "03W0005h01,2w04cab", true);
    String[] others = {"3S5h1,2w4cab", "3W6h1,2w4cab", "3W5h1w4cab", "3W5h1,3w4cab", "3W5w4cab", "3W5h1,2w5cab", "3W5h1,2w4cac",
      "3W5h1,2w4cbb", "3W5h1,2w4ca", "3W5h1,2w4cabb", "3W5h1,2w4", "3W5h1,2w4cba"};
    for (String other : others) {
      stuck(due, full, other, false);
      stuck(due, other, full, false);
    }
    stuck(due, "0R1", "0F1", false);
    stuck(due, "0R0", "0R1", false);
    stuck(due, "0W1w0", "0W1w15", false);
    stuck(due, "0R1h0", "0R1h15", false);
    stuck(due, "0R1cabcdefghijkl", "0R1cabcdefghijkl", true);
    stuck(due, "0R1cabcdefghijkl", "0R1cabcdefghijkm", false);
    StuckHands x = Due.reader("t1;0R1", "t2;0R3");
    x.meter(2, 1);
    due.is("counters as they stand, not by their rest", x.stuck(0), NONE);
  }

  static void ahead(Due due) {
    broken(due, "in two pictures", Due.reader("t1;0W1h0w15", "t2;9S1h15w0"), 0, 15);
    broken(due, "by two threads of one picture", Due.reader("t1;0W1h3w4;1W1h4w3"), 3, 4);
    broken(due, "each of four locks held", Due.reader("t1;0W1h9,8,7,6w1", "t2;0W1h1w6"), 1, 6);
    broken(due, "the last of four locks held", Due.reader("t1;0W1h9,8,7,6w1", "t2;0W1h1w9"), 1, 9);
    broken(due, "nobody need hold the other", Due.reader("t1;0W1h2w3", "t2;0W1h3w2"), 2, 3);
    broken(due, "holding alone is no order", Due.reader("t1;0R1h2,3", "t2;0R1h3,2"));
    broken(due, "one order alone", Due.reader("t1;0W1h0w1;1R1h1", "t2;1W1h0w1"));
    broken(due, "not two threads together", Due.reader("t1;0R1h0;1W1w1;2R1h2", "t2;0R1h1;1W1w0"));
    broken(due, "a torn row is none", Due.reader("t1;0W1h0w1", "t2;0W1h1w0x"));
    broken(due, "one seen in two pictures", Due.reader("t1;0W1h0w1;1W1h1w0", "t2;0W1h0w1", "t3;5S1h1w0"), 0, 1);
    broken(due, "a refused picture is none", Due.reader("t1;0W1h0w1", "t1;0W1h1w0"));
  }

  static void aheadOfItself(Due due) {
    broken(due, "one lock", Due.reader("t1;0W1h4w4"));
    broken(due, "one of two", Due.reader("t1;0W1h4,5w4"));
    broken(due, "one in two pictures", Due.reader("t1;0W1h0w0", "t2;0S1h0w0"));
    broken(due, "beside a true one", Due.reader("t1;0W1h0w0;1W1h4,7w7", "t2;1W1h7w4"), 4, 7);
  }

  static void lastOfTheFirst(Due due) {
    broken(due, "no picture", new StuckHands());
    broken(due, "a line", Due.reader("t1;0W1h0w1;1W1h1w2;2W1h2w3"));
    broken(due, "a line and a ring", Due.reader("t1;0W1h0w1;1W1h1w2;2W1h2w3", "t2;0W1h3w1"), 1, 2, 3);
    broken(due, "a ring with a dead end", Due.reader("t1;0W1h1w3;1W1h3w4;2W1h4w1", "t2;0W1h3w0;1W1h0w2"), 1, 3, 4);
    broken(due, "over three pictures", Due.reader("t1;0W1h3w5", "t2;0W1h5w8", "t3;0W1h8w3"), 3, 5, 8);
    broken(due, "all locks", Due.reader(WaitEdges.ringOf(16)), 0, 1, 2, 3, 4, 5, 6, 7, 8, 9, 10, 11, 12, 13, 14, 15);
    due.is("no ring of threads stands", Due.reader("t1;0W1h3w5", "t2;0W1h5w3").rings(1), 0);
  }

  static void fewestLocks(Due due) {
    broken(due, "two, not three lower ones", Due.reader("t1;0W1h0w1;1W1h1w2;2W1h2w0;3W1h14w15;4W1h15w14"), 14, 15);
    broken(due, "three, not four", Due.reader("t1;0W1h0w2;1W1h2w3;2W1h3w4;3W1h4w0", "t2;0W1h0w6;1W1h6w7;2W1h7w0"), 0, 6, 7);
    StuckHands x = Due.reader(WaitEdges.ringOf(16));
    Due.show(x, "t2;0W1h14w0");
    broken(due, "fifteen, not sixteen", x, 0, 1, 2, 3, 4, 5, 6, 7, 8, 9, 10, 11, 12, 13, 14);
    Due.show(x, "t3;0W1h9w8");
    broken(due, "two, not fifteen", x, 8, 9);
  }

  static void leastOfLikeOnes(Due due) {
    broken(due, "the first lock", Due.reader("t1;0W1h5w6;1W1h6w5;2W1h1w9;3W1h9w1"), 1, 9);
    broken(due, "locks 0 and 15 before 1 and 2", Due.reader("t1;0W1h1w2;1W1h2w1;2W1h0w15;3W1h15w0"), 0, 15);
    broken(due, "the second lock", Due.reader("t1;0W1h0w5;1W1h5w9;2W1h9w0", "t2;0W1h0w7;1W1h7w2;2W1h2w0"), 0, 5, 9);
    broken(due, "the third lock", Due.reader("t1;0W1h0w5;1W1h5w9;2W1h9w0", "t2;0W1h5w7;1W1h7w0"), 0, 5, 7);
    broken(due, "the last lock", Due.reader("t1;0W1h0w1;1W1h1w2;2W1h2w4;3W1h4w0", "t2;0W1h2w3;1W1h3w0"), 0, 1, 2, 3);
    broken(due, "both ways round", Due.reader("t1;0W1h0w2;1W1h2w1;2W1h1w0", "t2;0W1h0w3;1W1h3w1"), 0, 2, 1);
  }

  static void begunAtLowest(Due due) {
    broken(due, "three", Due.reader("t1;0W1h6w2;1W1h2w9;2W1h9w6"), 2, 9, 6);
    broken(due, "two", Due.reader("t1;0W1h15w0", "t2;0W1h0w15"), 0, 15);
    broken(due, "two rings that touch", Due.reader("t1;0W1h4w1;1W1h1w4", "t2;0W1h1w0;1W1h0w1"), 0, 1);
  }

  static void roundOfMeter(Due due) {
    StuckHands x = Due.reader("t1;0R9999;1R1", "t2;0R1;1R0");
    due.is("M at first", x.count(NONE, 2), 10000);
    work(due, x, 0, 0, 1, 2, 2, 1);
    int[] good = {2, 3, 9999, 10000};
    for (int m : good) due.is("meter " + m, x.meter(m, 10), true);
    for (int m : new int[] {1, 0, -1, -2, 10001, Integer.MIN_VALUE, Integer.MAX_VALUE}) due.is("meter " + m, x.meter(m, 10), false);
    due.is("M", x.count(NONE, 2), 10000);
    x.meter(2, 10);
    work(due, x, 0, 0, 1, 0, 10, 6);
    work(due, x, 1, 0, 1, 1, 9, 5);
    x.meter(9999, 10);
    work(due, x, 0, 0, 1, 1, 1, 1);
  }

  static void mostInATick(Due due) {
    StuckHands x = Due.reader("t1;0R0;1R0;2R0", "t2;0R10;1R11;2R100");
    due.is("V at first", x.count(NONE, 3), 10);
    work(due, x, 0, 0, 1, 10, 10, 1);
    work(due, x, 1, 0, 1, NONE, NONE, 0);
    for (int v : new int[] {0, 1, 99, 100}) due.is("meter " + v, x.meter(10000, v), true);
    for (int v : new int[] {-1, -2, 101, Integer.MIN_VALUE, Integer.MAX_VALUE}) due.is("meter " + v, x.meter(10000, v), false);
    due.is("V", x.count(NONE, 3), 100);
    work(due, x, 2, 0, 1, 100, 100, 1);
    x.meter(10000, 99);
    work(due, x, 2, 0, 1, NONE, NONE, 0);
    x.meter(10, 0);
    work(due, x, 0, 0, 1, 0, 0, 1);
    work(due, x, 1, 0, 1, NONE, NONE, 0);
  }

  static void upToVx(Due due) {
    StuckHands x = Due.reader("t10;0R0;1R0;2R0", "t12;0R0;1R20;2R21", "t0;3R0;4R1", "t9999;3R0;4R0");
    work(due, x, 0, 0, 1, 0, 0, 1);
    work(due, x, 1, 0, 1, 20, 20, 1);
    work(due, x, 2, 0, 1, NONE, NONE, 0);
    x.meter(20, 10);
    work(due, x, 0, 0, 1, 0, 20, 2);
    x.meter(21, 10);
    work(due, x, 0, 0, 1, 0, 0, 1);
    work(due, x, 2, 0, 1, 0, 0, 1);
    x.meter(7, 10);
    work(due, x, 0, 0, 1, 0, 14, 3);
    work(due, x, 1, 0, 1, 6, 20, 3);
    x.meter(2, 100);
    work(due, x, 3, 2, 3, 0, 999900, 499951);
    work(due, x, 4, 2, 3, 1, 999899, 499950);
    x.meter(10000, 100);
    work(due, x, 3, 2, 3, 0, 990000, 100);
    work(due, x, 4, 2, 3, 9999, 989999, 99);
  }

  static void fromTheOneAhead(Due due) {
    StuckHands x = Due.reader("t20;0R5;1R5", "t10;0R3;1R7", "t9;0R1");
    work(due, x, 0, 0, 1, 2, 2, 1);
    work(due, x, 1, 0, 1, NONE, NONE, 0);
    work(due, x, 0, 2, 1, 2, 2, 1);
    work(due, x, 0, 2, 0, 4, 4, 1);
    x.meter(100, 10);
    work(due, x, 1, 0, 1, 98, 98, 1);
  }

  static void goesRound(Due due) {
    StuckHands x = Due.reader("t1;0R9999;1R9990;2R49;3R0", "t2;0R0;1R0;2R3;3R49");
    work(due, x, 0, 0, 1, 1, 1, 1);
    work(due, x, 1, 0, 1, 10, 10, 1);
    x.meter(50, 100);
    work(due, x, 2, 0, 1, 4, 54, 2);
    work(due, x, 3, 0, 1, 49, 99, 2);
    x.meter(50, 4);
    work(due, x, 2, 0, 1, 4, 4, 1);
    x.meter(50, 3);
    work(due, x, 2, 0, 1, NONE, NONE, 0);
  }

  static void restByM(Due due) {
    StuckHands x = Due.reader("t1;0R12;1R13;2R9999;3R5;4R4", "t2;0R7;1R1;2R0;3R0;4R9999");
    x.meter(5, 4);
    work(due, x, 0, 0, 1, 0, 0, 1);
    work(due, x, 1, 0, 1, 3, 3, 1);
    work(due, x, 2, 0, 1, 1, 1, 1);
    work(due, x, 3, 0, 1, 0, 0, 1);
    work(due, x, 4, 0, 1, 0, 0, 1);
    x.meter(9999, 0);
    work(due, x, 2, 0, 1, 0, 0, 1);
  }

  static void stuckByNumber(Due due) {
    StuckHands x = Due.reader(allThreads(1), allThreads(2));
    for (int i = 0; i < 24; i++) due.is("stuck " + i, x.stuck(i), i);
    StuckHands y = Due.reader("t1;23R1;7R1;0R1;9R1", "t2;9R2;0R1;23R1;7R1");
    int[] want = {0, 7, 23};
    for (int i = 0; i < want.length; i++) due.is("stuck " + i + " of some", y.stuck(i), want[i]);
  }

  static void noSuchStuck(Due due) {
    StuckHands x = Due.reader("t1;0R1;1R1", "t2;0R1;1R1");
    due.is("stuck 2 of two", x.stuck(2), NONE);
    for (int i : Odd.PLACES) due.is("stuck " + i, x.stuck(i), NONE);
    StuckHands all = Due.reader(allThreads(1), allThreads(2));
    for (int i : Odd.PLACES) due.is("stuck " + i + " of all", all.stuck(i), NONE);
    due.is("no pictures", new StuckHands().stuck(0), NONE);
    due.is("no threads", Due.reader("t1", "t2").stuck(0), NONE);
  }

  static void lockOfBroken(Due due) {
    StuckHands x = Due.reader(WaitEdges.ringOf(16));
    for (int i = 0; i < 16; i++) due.is("broken " + i, x.broken(i), i);
    StuckHands y = Due.reader("t1;0W1h15w14;1W1h14w15");
    due.is("broken 0", y.broken(0), 14);
    due.is("broken 1", y.broken(1), 15);
  }

  static void noSuchBroken(Due due) {
    StuckHands x = Due.reader("t1;0W1h0w1;1W1h1w0");
    due.is("broken 2 of two", x.broken(2), NONE);
    for (int i : Odd.LOCKS) due.is("broken " + i, x.broken(i), NONE);
    StuckHands all = Due.reader(WaitEdges.ringOf(16));
    for (int i : Odd.LOCKS) due.is("broken " + i + " of all", all.broken(i), NONE);
    due.is("no pictures", new StuckHands().broken(0), NONE);
    due.is("no order is broken", Due.reader("t1;0W1h0w1").broken(0), NONE);
  }

  static void meterTaken(Due due) {
    StuckHands x = new StuckHands();
    int[][] pairs = {{2, 0}, {10000, 100}, {2, 100}, {10000, 0}, {50, 7}};
    for (int[] pair : pairs) {
      due.is("meter " + pair[0] + " " + pair[1], x.meter(pair[0], pair[1]), true);
      due.is("M", x.count(NONE, 2), pair[0]);
      due.is("V", x.count(NONE, 3), pair[1]);
    }
    StuckHands y = Due.reader("t1;0R0", "t2;0R5");
    y.meter(5, 5);
    due.is("pictures that are there go by it", y.work(0, 0, 1, 2), 2);
  }

  static void meterRefused(Due due) {
    StuckHands x = new StuckHands();
    x.meter(50, 7);
    int[][] pairs = {{1, 7}, {0, 7}, {-50, 7}, {10001, 7}, {50, -1}, {50, 101}, {1, -1}, {10001, 101}, {Integer.MIN_VALUE, 7},
      {Integer.MAX_VALUE, 7}, {9, Integer.MIN_VALUE}, {9, Integer.MAX_VALUE}};
    for (int[] pair : pairs) {
      due.is("meter " + pair[0] + " " + pair[1], x.meter(pair[0], pair[1]), false);
      due.is("M", x.count(NONE, 2), 50);
      due.is("V", x.count(NONE, 3), 7);
    }
  }

  private static StuckHands worked() {
    StuckHands x = Due.reader("t1;0R3;1R0;2R0;23R0", "t3;0R5;1R50;3R0;23R1");
    x.meter(10, 10);
    return x;
  }

  static void workBetween(Due due) {
    work(due, worked(), 0, 0, 1, 2, 12, 2);
    work(due, worked(), 1, 0, 1, 0, 20, 3);
    work(due, worked(), 23, 0, 1, 1, 11, 2);
  }

  static void workLeast(Due due) {
    due.is("2 of 2, 12", worked().work(0, 0, 1, 0), 2);
    due.is("0 of 0, 10, 20", worked().work(1, 0, 1, 0), 0);
  }

  static void workGreatest(Due due) {
    due.is("12 of 2, 12", worked().work(0, 0, 1, 1), 12);
    due.is("20 of 0, 10, 20", worked().work(1, 0, 1, 1), 20);
  }

  static void workNumbers(Due due) {
    due.is("2, 12", worked().work(0, 0, 1, 2), 2);
    due.is("0, 10, 20", worked().work(1, 0, 1, 2), 3);
    StuckHands x = Due.reader("t1;0R0", "t2;0R11");
    due.is("no number", x.work(0, 0, 1, 2), 0);
  }

  static void workOfNone(Due due) {
    StuckHands x = worked();
    for (int what : new int[] {-1, 3, 4, 256, Integer.MIN_VALUE, Integer.MAX_VALUE}) due.is("what " + what, x.work(0, 0, 1, what), NONE);
    for (int what = 0; what < 3; what++) {
      for (int t : Odd.THREADS) due.is("thread " + t, x.work(t, 0, 1, what), NONE);
      for (int p : Odd.PICTURES) due.is("picture " + p, x.work(0, p, 1, what), NONE);
      for (int q : Odd.PICTURES) due.is("to picture " + q, x.work(0, 0, q, what), NONE);
      due.is("picture -1", x.work(0, -1, 1, what), NONE);
      due.is("to picture 2", x.work(0, 0, 2, what), NONE);
    }
  }

  static void workOneHasItNot(Due due) {
    for (int what = 0; what < 3; what++) {
      due.is("the one behind has it not", worked().work(2, 0, 1, what), NONE);
      due.is("the one ahead has it not", worked().work(3, 0, 1, what), NONE);
      due.is("neither has it", worked().work(4, 0, 1, what), NONE);
      due.is("its row is torn", Due.reader("t1;0R1", "t2;0R1x").work(0, 0, 1, what), NONE);
    }
  }

  static void workOfOne(Due due) {
    for (int what = 0; what < 3; what++) {
      due.is("picture 0 twice", worked().work(0, 0, 0, what), NONE);
      due.is("picture 1 twice", worked().work(0, 1, 1, what), NONE);
    }
  }

  static void workNoNumber(Due due) {
    StuckHands x = Due.reader("t1;0R1", "t2;0R0");
    due.is("least", x.work(0, 0, 1, 0), NONE);
    due.is("greatest", x.work(0, 0, 1, 1), NONE);
    due.is("how many", x.work(0, 0, 1, 2), 0);
    x.meter(10, 0);
    due.is("least with V 0", x.work(0, 0, 1, 0), NONE);
    x.meter(10, 9);
    due.is("least with V 9", x.work(0, 0, 1, 0), 9);
  }

  static void orderFrom0(Due due) {
    StuckHands x = Due.reader("t9999");
    due.is("the only one", x.order(0), 0);
    Due.show(x, "t0");
    due.is("one ahead of it", x.order(0), 1);
    due.is("it moves on", x.order(1), 0);
    Due.show(x, "t5000;x");
    due.is("one between, though torn", x.order(1), 2);
    due.is("the last", x.order(2), 0);
  }

  static void noSuchOrder(Due due) {
    StuckHands x = Due.reader("t3", "t2", "t1");
    due.is("order 3 of three", x.order(3), NONE);
    for (int i : Odd.PLACES) due.is("order " + i, x.order(i), NONE);
    due.is("no pictures", new StuckHands().order(0), NONE);
    StuckHands all = Due.reader("t1", "t2", "t3", "t4", "t5", "t6", "t7", "t8");
    due.is("order 7 of eight", all.order(7), 7);
    due.is("order 8 of eight", all.order(8), NONE);
    for (int i : Odd.PLACES) due.is("order " + i + " of eight", all.order(i), NONE);
  }

  private static StuckHands counted() {
    return Due.reader("t77;0W1h0,1w2;1S1w3;2R1h4;3F1;4W1h9", "t0", "t9999;0R1", allThreads(5));
  }

  static void countTick(Due due) {
    int[] want = {77, 0, 9999, 5};
    for (int p = 0; p < 4; p++) due.is("tick of picture " + p, counted().count(p, 0), want[p]);
  }

  static void countThreads(Due due) {
    int[] want = {4, 0, 1, 24};
    for (int p = 0; p < 4; p++) due.is("threads of picture " + p, counted().count(p, 1), want[p]);
  }

  static void countWaiting(Due due) {
    int[] want = {2, 0, 0, 0};
    for (int p = 0; p < 4; p++) due.is("waiting of picture " + p, counted().count(p, 2), want[p]);
    StringBuilder text = new StringBuilder("t1");
    for (int t = 0; t < 24; t++) text.append(";").append(t).append("W1w0");
    due.is("all wait", Due.reader(text.toString()).count(0, 2), 24);
  }

  static void countHeld(Due due) {
    int[] want = {3, 0, 0, 0};
    for (int p = 0; p < 4; p++) due.is("locks held of picture " + p, counted().count(p, 3), want[p]);
    due.is("all locks", Due.reader("t1;0R1h0,1,2,3;1R1h4,5,6,7;2R1h8,9,10,11;3R1h12,13,14,15").count(0, 3), 16);
  }

  static void countPictures(Due due) {
    StuckHands x = new StuckHands();
    for (int p = 0; p < 8; p++) {
      due.is("pictures", x.count(NONE, 0), p);
      Due.show(x, "t" + p);
      Due.show(x, "t" + p);
    }
    due.is("eight", x.count(NONE, 0), 8);
    Due.show(x, "t8");
    due.is("still eight", x.count(NONE, 0), 8);
  }

  static void countTape(Due due) {
    StuckHands x = new StuckHands();
    due.is("none", x.count(NONE, 1), 0);
    x.feed(0, 0, 0, 0, 0);
    due.is("twenty", x.count(NONE, 1), 20);
    for (int i = 0; i < 20; i++) x.feed(0, 0, 0, 0, 0);
    due.is("300", x.count(NONE, 1), 300);
    x.picture(0);
    due.is("none again", x.count(NONE, 1), 0);
  }

  static void countM(Due due) {
    StuckHands x = new StuckHands();
    due.is("at first", x.count(NONE, 2), 10000);
    x.meter(2, 99);
    due.is("after meter", x.count(NONE, 2), 2);
  }

  static void countV(Due due) {
    StuckHands x = new StuckHands();
    due.is("at first", x.count(NONE, 3), 10);
    x.meter(99, 0);
    due.is("after meter", x.count(NONE, 3), 0);
  }

  static void countOthers(Due due) {
    StuckHands x = counted();
    for (int what : NO_WHAT) {
      due.is("count of picture 0, what " + what, x.count(0, what), NONE);
      due.is("count of NONE, what " + what, x.count(NONE, what), NONE);
    }
    for (int what = 0; what < 4; what++) {
      for (int p : Odd.PICTURES) due.is("count of picture " + p, x.count(p, what), NONE);
      due.is("count of picture 4", x.count(4, what), NONE);
    }
  }
}
