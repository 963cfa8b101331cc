/** The edges of who waits for whom in one picture (Terms, promises 6 to 12). */
final class WaitEdges {
  private static final int NONE = StuckHands.NONE;

  private WaitEdges() {
  }

  /** Threads 0 to 15 each hold their lock and wait at the next one's, the last at the first's. */
  static String ringOf(int size) {
    StringBuilder text = new StringBuilder("t1");
    for (int t = 0; t < size; t++) text.append(";").append(t).append("W1h").append(t).append("w").append((t + 1) % size);
    return text.toString();
  }

  private static String hungAt(String text, int lock, int from) {
    StringBuilder all = new StringBuilder(text);
    for (int t = from; t < 24; t++) all.append(";").append(t).append("W1w").append(lock);
    return all.toString();
  }

  /** Thread 16 holds the last lock and runs; 0 waits for 1, 1 for 2, and so on up to it. */
  private static String longestLine() {
    StringBuilder line = new StringBuilder("t1;16R1h15");
    for (int t = 0; t < 15; t++) line.append(";").append(t).append("W1h").append(t).append("w").append(t + 1);
    return line.append(";15W1w0").toString();
  }

  static void waitsFor(Due due) {
    StuckHands x = Due.reader("t1;3W1w7;9R1h6,7,8", "t2;9R1h7;3S1w7;4W1w8", "t3;3W1w7;5F1h7");
    due.is("for the one that holds it", x.foot(0, 3), 9);
    due.is("one that spins waits, too", x.foot(1, 3), 9);
    due.is("not for one that holds other locks", x.foot(1, 4), 4);
    due.is("in another picture for another", x.foot(2, 3), 5);
    due.is("how many wait for it", x.through(0, 9), 1);
    due.is("the holder waits for nobody", x.through(0, 3), 0);
    StuckHands y = Due.reader("t1;0W1h1w2;1R1h2", "t2;0W1h1,2w3;2W1w1;3W1w2");
    due.is("not because of what it holds itself", y.through(0, 0), 0);
    due.is("for it by each of its locks", y.through(1, 0), 2);
  }

  static void forItself(Due due) {
    StuckHands x = Due.reader("t1;5W1h2w2;6W1w2", "t2;7S1h0,15w15");
    due.is("a ring of itself", x.rings(0), 1);
    due.is("its thread", x.ring(0, 0, 0), 5);
    due.is("its end", x.ring(0, 0, 1), NONE);
    due.is("it has no foot", x.foot(0, 5), NONE);
    due.is("it is not through itself", x.through(0, 5), 1);
    due.is("it is through its lock, as is the other", x.weight(0, 2), 2);
    due.is("by the second lock that it holds", x.ring(1, 0, 0), 7);
  }

  static void nobodyHolds(Due due) {
    StuckHands x = Due.reader("t1;0W1h1w2;1W1w1;2R1", "t2;2R1h2;0R1h1", "t3;0W1h1w2;2R1h2x");
    due.is("the foot is where the lock is free", x.foot(0, 1), 0);
    due.is("another picture's holder is none here", x.through(0, 2), 0);
    due.is("a torn row's holder is none", x.foot(2, 0), 0);
    due.is("no ring", x.rings(0), 0);
    due.is("yet it is waited through", x.weight(0, 2), 2);
  }

  static void eachOnce(Due due) {
    StuckHands x = Due.reader(hungAt(ringOf(16), 0, 16), "t2;0W1h0w1;1W1h1w0;2W1w0");
    for (int t = 0; t < 16; t++) {
      due.is("all others once through " + t, x.through(0, t), 23);
      due.is("all once through lock " + t, x.weight(0, t), 24);
    }
    due.is("through one that hangs at the ring", x.through(0, 16), 0);
    due.is("a ring of two, entered from outside", x.through(1, 0) * 10 + x.through(1, 1), 22);
  }

  static void ringsEnd(Due due) {
    StuckHands x = Due.reader(ringOf(16), "t2;0W1h0w1;1W1h1w2;2R1h2;3W1w0", "t3;0W1h0w1;1W1h1w2;2W1h2w1");
    due.is("the longest ring", x.rings(0), 1);
    for (int i = 0; i < 16; i++) due.is("thread " + i, x.ring(0, 0, i), i);
    due.is("it ends", x.ring(0, 0, 16), NONE);
    due.is("a line is no ring", x.rings(1), 0);
    due.is("one that hangs at a ring is none of it", x.rings(2), 1);
    due.is("its first", x.ring(2, 0, 0), 1);
    due.is("its second", x.ring(2, 0, 1), 2);
    due.is("no third", x.ring(2, 0, 2), NONE);
  }

  static void footNeedsW(Due due) {
    StuckHands x = Due.reader("t1;0R1;1F1h1;2R1h2;3W1w2;4S1w1;5W1w9");
    int[] want = {NONE, NONE, NONE, 2, 1, 5, NONE};
    for (int t = 0; t < want.length; t++) due.is("foot of " + t, x.foot(0, t), want[t]);
  }

  static void footWaitsForNobody(Due due) {
    StuckHands x = Due.reader("t1;0W1h0w1;1W1h1w0;2W1h2w0;3W1w2;4W1h4w4;5W1w4;6W1h6w15;7W1w6;8R1h8;9W1w8");
    int[] want = {NONE, NONE, NONE, NONE, NONE, NONE, 6, 6, NONE, 8};
    for (int t = 0; t < want.length; t++) due.is("foot of " + t, x.foot(0, t), want[t]);
    StuckHands line = Due.reader(longestLine());
    for (int t = 0; t < 16; t++) due.is("foot of the line at " + t, line.foot(0, t), 16);
    due.is("foot of the line's end", line.foot(0, 16), NONE);
  }

  static void throughEachOther(Due due) {
    StuckHands x = Due.reader(longestLine(), "t2;0W1h0w0", "t3;0W1h0w1;1W1h1w0", "t4;0W1w3");
    due.is("through the line's end", x.through(0, 16), 16);
    due.is("through its last but one", x.through(0, 14), 15);
    due.is("through its second", x.through(0, 1), 2);
    due.is("through its first", x.through(0, 0), 1);
    due.is("through the one ahead of it", x.through(0, 15), 0);
    due.is("not through itself", x.through(1, 0), 0);
    due.is("nor in a ring", x.through(2, 0), 1);
    due.is("nor where nobody holds the lock", x.through(3, 0), 0);
  }

  static void throughEachLock(Due due) {
    StuckHands x = Due.reader(longestLine(), "t2;0W1h0w0", "t3;0W1w3;1S1w3;2R1h3", "t4;5W1w4");
    due.is("the last lock of the line", x.weight(0, 15), 16);
    due.is("its second", x.weight(0, 1), 2);
    due.is("its first", x.weight(0, 0), 1);
    due.is("itself, too, where it holds the lock", x.weight(1, 0), 1);
    due.is("two at one lock", x.weight(2, 3), 2);
    due.is("itself, too, where nobody holds the lock", x.weight(3, 4), 1);
    due.is("a lock that is held, with nobody at it", Due.reader("t1;0R1h5;1W1w6").weight(0, 5), 0);
  }

  static void mostWait(Due due) {
    StuckHands x = Due.reader(longestLine(), "t2;0W1w1;1W1w9;2W1w9;3W1w14", "t3;0W1h5w12;1W1w5;2W1w5;3W1w0;4W1w0", hungAt("t4;0R1h15", 15, 1));
    due.is("the line's last lock", x.guilty(0), 15);
    due.is("one that most wait at", x.guilty(1), 9);
    due.is("one that most wait through, not at", x.guilty(2), 12);
    due.is("its weight", x.weight(2, 12), 3);
    due.is("all others at one lock", x.guilty(3) * 100 + x.weight(3, 15), 1523);
  }

  static void lowestOfLikeOnes(Due due) {
    StuckHands x = Due.reader("t1;0W1w15;1W1w14", "t2;0W1w1;1W1w0", "t3;0W1w9;1W1w3;2W1w9;3W1w3;4W1w1", ringOf(16).replace("t1;", "t4;"));
    due.is("14 and 15", x.guilty(0), 14);
    due.is("0 and 1", x.guilty(1), 0);
    due.is("3 and 9, not 1", x.guilty(2), 3);
    due.is("all", x.guilty(3), 0);
  }

  static void holds(Due due) {
    StuckHands x = Due.reader("t1;23R1h0,15;0W1h7w0", "t2;5R1h0");
    due.is("lock 0", x.holder(0, 0), 23);
    due.is("lock 15", x.holder(0, 15), 23);
    due.is("lock 7", x.holder(0, 7), 0);
    due.is("lock 0 in the other picture", x.holder(1, 0), 5);
  }

  static void nobodyIsHolder(Due due) {
    StuckHands x = Due.reader("t1;4R1h3;5W1w9;6R1h8,17", "t2;4R1h9");
    due.is("a lock that no row names", x.holder(0, 0), NONE);
    due.is("a lock that is only waited at", x.holder(0, 9), NONE);
    due.is("a lock of a torn row", x.holder(0, 8), NONE);
    due.is("a lock of the other picture", x.holder(1, 3), NONE);
  }

  static void holderOfNone(Due due) {
    StuckHands x = Due.reader("t1;4R1h0,15");
    for (int l : Odd.LOCKS) due.is("lock " + l, x.holder(0, l), NONE);
    for (int p : Odd.PICTURES) due.is("picture " + p, x.holder(p, 0), NONE);
    due.is("picture -1", x.holder(-1, 0), NONE);
    due.is("picture 1", x.holder(1, 0), NONE);
  }

  static void howManyRings(Due due) {
    StringBuilder ones = new StringBuilder("t1");
    for (int t = 0; t < 16; t++) ones.append(";").append(t + 8).append("W1h").append(t).append("w").append(t);
    StuckHands x = Due.reader(ones.toString(), "t2", "t3;0R1h0", "t4;0W1h0w1;1S1h1w0;2W1h2w3;3W1h3w2");
    due.is("sixteen of one", x.rings(0), 16);
    due.is("no rows", x.rings(1), 0);
    due.is("nobody waits", x.rings(2), 0);
    due.is("two of two", x.rings(3), 2);
  }

  static void ringsOfNone(Due due) {
    StuckHands x = Due.reader("t1;0W1h0w0");
    for (int p : Odd.PICTURES) due.is("picture " + p, x.rings(p), NONE);
    due.is("picture -1", x.rings(-1), NONE);
    due.is("picture 1", x.rings(1), NONE);
  }

  static void threadOfRing(Due due) {
    StuckHands x = Due.reader("t1;0R1", "t2;0W1h0w1;1W1h1w0;23W1h15w15");
    due.is("ring 0, thread 0", x.ring(1, 0, 0), 0);
    due.is("ring 0, thread 1", x.ring(1, 0, 1), 1);
    due.is("ring 1, thread 0", x.ring(1, 1, 0), 23);
    StringBuilder ones = new StringBuilder("t1");
    for (int t = 0; t < 16; t++) ones.append(";").append(t + 8).append("W1h").append(t).append("w").append(t);
    StuckHands many = Due.reader(ones.toString());
    for (int r = 0; r < 16; r++) due.is("ring " + r + " of sixteen", many.ring(0, r, 0), r + 8);
    due.is("no seventeenth", many.ring(0, 16, 0), NONE);
  }

  static void ringsByLowest(Due due) {
    StuckHands x = Due.reader("t1;20W1h0w1;2W1h1w0;9W1h2w3;1W1h3w2;5W1h5w5");
    due.is("ring 0", x.ring(0, 0, 0), 1);
    due.is("ring 1", x.ring(0, 1, 0), 2);
    due.is("ring 2", x.ring(0, 2, 0), 5);
  }

  static void ringFromLowestOn(Due due) {
    StuckHands x = Due.reader("t1;7W1h7w5;5W1h5w9;9S1h9w3;3W1h3w7");
    int[] want = {3, 7, 5, 9, NONE};
    for (int i = 0; i < want.length; i++) due.is("thread " + i, x.ring(0, 0, i), want[i]);
  }

  static void noSuchRing(Due due) {
    StuckHands x = Due.reader("t1;0W1h0w1;1W1h1w0;5W1h5w5", "t2;0R1");
    due.is("thread 2 of two", x.ring(0, 0, 2), NONE);
    due.is("thread 1 of one", x.ring(0, 1, 1), NONE);
    due.is("ring 2 of two", x.ring(0, 2, 0), NONE);
    due.is("a picture without rings", x.ring(1, 0, 0), NONE);
    for (int i : Odd.PLACES) {
      due.is("thread " + i, x.ring(0, 0, i), NONE);
      due.is("ring " + i, x.ring(0, i, 0), NONE);
    }
    for (int p : Odd.PICTURES) due.is("picture " + p, x.ring(p, 0, 0), NONE);
    due.is("picture -1", x.ring(-1, 0, 0), NONE);
    due.is("picture 2", x.ring(2, 0, 0), NONE);
  }

  static void footOf(Due due) {
    StuckHands x = Due.reader("t1;0W1h0w1;1R1h1", "t2;0W1h0w1;2F1h1;23W1w0");
    due.is("in picture 0", x.foot(0, 0), 1);
    due.is("in picture 1", x.foot(1, 0), 2);
    due.is("by way of another", x.foot(1, 23), 2);
  }

  static void noFoot(Due due) {
    StuckHands x = Due.reader("t1;0W1h0w1;1W1h1w0;2W1w0;3R1;4W1w15;5W1w14x");
    for (int t = 0; t < 4; t++) due.is("foot of " + t, x.foot(0, t), NONE);
    due.is("a thread whose row is torn", x.foot(0, 5), NONE);
    due.is("a thread that is not there", x.foot(0, 6), NONE);
    for (int t : Odd.THREADS) due.is("thread " + t, x.foot(0, t), NONE);
    for (int p : Odd.PICTURES) due.is("picture " + p, x.foot(p, 4), NONE);
    due.is("picture -1", x.foot(-1, 4), NONE);
    due.is("picture 1", x.foot(1, 4), NONE);
  }

  static void footIsItself(Due due) {
    StuckHands x = Due.reader("t1;0W1w0;23S1h3w15", "t2;5R1h0");
    due.is("thread 0", x.foot(0, 0), 0);
    due.is("thread 23, though it holds a lock", x.foot(0, 23), 23);
  }

  static void howManyThroughThread(Due due) {
    StuckHands x = Due.reader(hungAt("t1;0R1h15", 15, 1), "t2;0R1;1W1h1w2;2W1w1");
    due.is("all others", x.through(0, 0), 23);
    due.is("nobody", x.through(0, 23), 0);
    due.is("one that runs and holds nothing", x.through(1, 0), 0);
    due.is("one that waits at a free lock", x.through(1, 1), 1);
  }

  static void throughOfNone(Due due) {
    StuckHands x = Due.reader("t1;0R1h1;1W1w1");
    for (int t : Odd.THREADS) due.is("thread " + t, x.through(0, t), NONE);
    for (int p : Odd.PICTURES) due.is("picture " + p, x.through(p, 0), NONE);
    due.is("picture -1", x.through(-1, 0), NONE);
    due.is("picture 1", x.through(1, 0), NONE);
  }

  static void throughNotThere(Due due) {
    StuckHands x = Due.reader("t1;0R1h1;1W1w1;2R1h2,2", "t2;3R1");
    due.is("a thread of another picture", x.through(0, 3), NONE);
    due.is("a thread whose row is torn", x.through(0, 2), NONE);
    due.is("the last thread", x.through(0, 23), NONE);
    due.is("the first thread", x.through(1, 0), NONE);
  }

  static void howManyThroughLock(Due due) {
    StuckHands x = Due.reader("t1;0W1h0w15;1W1w0;2R1h15", "t2", hungAt(ringOf(16), 0, 16).replace("t1;", "t3;"));
    due.is("lock 0", x.weight(0, 0), 1);
    due.is("lock 15", x.weight(0, 15), 2);
    due.is("a lock that nobody names", x.weight(0, 7), 0);
    due.is("a picture without rows", x.weight(1, 0), 0);
    due.is("all threads", x.weight(2, 15), 24);
  }

  static void weightOfNone(Due due) {
    StuckHands x = Due.reader("t1;0W1w0;1W1w15");
    for (int l : Odd.LOCKS) due.is("lock " + l, x.weight(0, l), NONE);
    for (int p : Odd.PICTURES) due.is("picture " + p, x.weight(p, 0), NONE);
    due.is("picture -1", x.weight(-1, 0), NONE);
    due.is("picture 1", x.weight(1, 0), NONE);
  }

  static void guiltyOf(Due due) {
    StuckHands x = Due.reader("t1;0W1w0", "t2;0W1w15", "t3;0W1w3;1W1w4;2W1w4");
    due.is("lock 0", x.guilty(0), 0);
    due.is("lock 15", x.guilty(1), 15);
    due.is("in picture 2", x.guilty(2), 4);
  }

  static void nobodyWaits(Due due) {
    StuckHands x = Due.reader("t1", "t2;0R1h0;1F1h1", "t3;0W1", "t4;0W1w1");
    due.is("no rows", x.guilty(0), NONE);
    due.is("locks are held", x.guilty(1), NONE);
    due.is("the row that waits is torn", x.guilty(2), NONE);
    due.is("one waits in another picture", x.guilty(3), 1);
  }

  static void guiltyOfNone(Due due) {
    StuckHands x = Due.reader("t1;0W1w0");
    for (int p : Odd.PICTURES) due.is("picture " + p, x.guilty(p), NONE);
    due.is("picture -1", x.guilty(-1), NONE);
    due.is("picture 1", x.guilty(1), NONE);
  }
}
