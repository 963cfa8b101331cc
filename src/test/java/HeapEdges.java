/** The edges of the distance of rows of calls and of heaps (Terms, promises 17 to 19). */
final class HeapEdges {
  private static final int NONE = StuckHands.NONE;
  private static final String A12 = "aaaaaaaaaaaa";

  private HeapEdges() {
  }

  /** Both orders of the rows, since a distance may be worked out from the row that comes last. */
  private static void apart(Due due, String one, String other, int want) {
    apartInOrder(due, one, other, want);
    apartInOrder(due, other, one, want);
  }

  private static void apartInOrder(Due due, String one, String other, int want) {
    StuckHands x = Due.reader("t1;4R1" + (one.isEmpty() ? "" : "c" + one) + ";7F2" + (other.isEmpty() ? "" : "c" + other));
    due.is("distance of '" + one + "' and '" + other + "'", x.distance(0, 4, 7), want);
    due.is("distance of '" + other + "' and '" + one + "'", x.distance(0, 7, 4), want);
    due.is("one heap by it", x.heaps(0, want), 1);
    if (want > 0) due.is("two heaps by one less", x.heaps(0, want - 1), 2);
  }

  /** Thirteen threads of 0 to 12 calls, so that neighbours are 1 apart and the ends 12; the lowest, 2, is amid them. */
  private static String ladder() {
    StringBuilder text = new StringBuilder("t1;5R1");
    for (int n = 1; n <= 12; n++) text.append(";").append((5 + 7 * n) % 24).append("R1c").append(A12, 0, n);
    return text.toString();
  }

  /** All threads in one row: each is 1 apart from the next one, by its first or second call in turn, and 2 from all others. */
  private static String longestLine() {
    StringBuilder text = new StringBuilder("t4");
    for (int t = 0; t < 24; t++) {
      text.append(";").append(t).append("R1c").append((char) ('a' + t / 2)).append((char) ('a' + (t + 1) / 2));
    }
    return text.toString();
  }

  static void fewestCalls(Due due) {
    apart(due, "", "", 0);
    apart(due, "abc", "abc", 0);
    apart(due, "", "a", 1);
    apart(due, "abc", "abcd", 1);
    apart(due, "abc", "xabc", 1);
    apart(due, "abc", "axbc", 1);
    apart(due, "abc", "abd", 1);
    apart(due, "abc", "xbc", 1);
    apart(due, "ab", "ba", 2);
    apart(due, "abcdef", "bcdefa", 2);
    apart(due, "abc", "xyz", 3);
    apart(due, "kitten", "sitting", 3);
    apart(due, "", A12, 12);
    apart(due, "a", A12, 11);
    apart(due, A12, "bbbbbbbbbbbb", 12);
    apart(due, A12, "b", 12);
    apart(due, A12, A12, 0);
    apart(due, "abcdefghijkl", "bcdefghijklm", 2);
    apart(due, "abcdefghijkl", "lkjihgfedcba", 12);
    apart(due, "abababababab", "babababababa", 2);
  }

  static void allThreads(Due due) {
    StuckHands x = Due.reader("t1;0R1;1W2h1w2;2S3w1;3F4", "t2", "t3;9R1x", TimeEdges.allThreads(4));
    due.is("without calls, of each state", x.heaps(0, 0), 1);
    due.is("the lowest", x.heap(0, 0, 3), 0);
    due.is("no threads", x.heaps(1, 0), 0);
    due.is("no threads by 24", x.heaps(1, 24), 0);
    due.is("a torn row is none", x.heaps(2, 0), 0);
    due.is("all 24", x.heaps(3, 0), 1);
    due.is("their lowest", x.heap(3, 0, 23), 0);
    due.is("one without calls beside one with", Due.reader("t1;0R1;1R1ca").heaps(0, 0), 2);
  }

  static void hungTogether(Due due) {
    StuckHands x = Due.reader(ladder(), "t2;5R1cab;6R1ccd;7R1ccb", "t3;23R1ca;0R1cabc;12R1cab;1R1czzz;2R1czzy", longestLine());
    due.is("each alone by 0", x.heaps(0, 0), 13);
    due.is("all by 1, though the ends are 12 apart", x.heaps(0, 1), 1);
    for (int n = 0; n <= 12; n++) due.is("the lowest of " + n, x.heap(0, 1, (5 + 7 * n) % 24), 2);
    due.is("by way of one that comes behind", x.heap(1, 1, 6), 5);
    due.is("two heaps", x.heaps(2, 1), 2);
    due.is("lowest of the one", x.heap(2, 1, 23), 0);
    due.is("lowest of the other", x.heap(2, 1, 2), 1);
    due.is("all threads apart", x.heaps(3, 0), 24);
    due.is("all threads in a row", x.heaps(3, 1), 1);
    for (int t = 0; t < 24; t++) due.is("lowest of the row of " + t, x.heap(3, 1, t), 0);
  }

  static void notAboveD(Due due) {
    StuckHands x = Due.reader("t1;0R1;1R1caaa;2R1caaaaaaa");
    int[][] want = {{0, 3}, {2, 3}, {3, 2}, {4, 1}, {5, 1}, {24, 1}};
    for (int[] pair : want) due.is("heaps by " + pair[0], x.heaps(0, pair[0]), pair[1]);
    due.is("3 is not above 3", x.heap(0, 3, 1), 0);
    due.is("3 is above 2", x.heap(0, 2, 1), 1);
    StuckHands y = Due.reader("t1;0R1;1R1c" + A12);
    due.is("12 is above 11", y.heaps(0, 11), 2);
    due.is("12 is not above 12", y.heaps(0, 12), 1);
  }

  static void distanceOf(Due due) {
    StuckHands x = Due.reader("t1;0R1cab;23R1cac;5R1", "t2;0R1cab;23R1cxyz");
    due.is("the first and the last thread", x.distance(0, 0, 23), 1);
    due.is("the other way", x.distance(0, 23, 0), 1);
    due.is("in another picture", x.distance(1, 0, 23), 3);
    due.is("to itself", x.distance(0, 0, 0), 0);
    due.is("to itself without calls", x.distance(0, 5, 5), 0);
  }

  static void distanceOfNone(Due due) {
    StuckHands x = Due.reader("t1;0R1ca;23R1");
    for (int t : Odd.THREADS) {
      due.is("thread " + t, x.distance(0, t, 0), NONE);
      due.is("to thread " + t, x.distance(0, 0, t), NONE);
      due.is("thread " + t + " to itself", x.distance(0, t, t), NONE);
    }
    for (int p : Odd.PICTURES) due.is("picture " + p, x.distance(p, 0, 0), NONE);
    due.is("picture -1", x.distance(-1, 0, 0), NONE);
    due.is("picture 1", x.distance(1, 0, 0), NONE);
  }

  static void distanceNotThere(Due due) {
    StuckHands x = Due.reader("t1;0R1ca;1R1cb;2R1c", "t2;3R1");
    due.is("one is not there", x.distance(0, 3, 0), NONE);
    due.is("the other is not there", x.distance(0, 0, 3), NONE);
    due.is("neither is there", x.distance(0, 3, 4), NONE);
    due.is("not there, to itself", x.distance(0, 3, 3), NONE);
    due.is("its row is torn", x.distance(0, 0, 2), NONE);
  }

  static void howManyHeaps(Due due) {
    StuckHands x = Due.reader(ladder(), "t2;0R1;1R1c" + A12);
    int[] want = {13, 1, 1};
    for (int d = 0; d < want.length; d++) due.is("heaps by " + d, x.heaps(0, d), want[d]);
    for (int d = 0; d <= 24; d++) due.is("heaps by " + d, x.heaps(1, d), d < 12 ? 2 : 1);
  }

  static void heapsOfNone(Due due) {
    StuckHands x = Due.reader("t1;0R1;1R1ca");
    for (int d : new int[] {-1, -2, 25, 26, 256, Integer.MIN_VALUE, Integer.MAX_VALUE}) due.is("heaps by " + d, x.heaps(0, d), NONE);
    for (int p : Odd.PICTURES) due.is("picture " + p, x.heaps(p, 0), NONE);
    due.is("picture -1", x.heaps(-1, 0), NONE);
    due.is("picture 1", x.heaps(1, 0), NONE);
  }

  static void lowestThread(Due due) {
    StuckHands x = Due.reader("t1;23R1ca;3R1cab;7R1cabc;9R1czzzz;11R1czzzz;0R1cyyyyyyyyyyyy", "t2;23R1;22R1");
    due.is("alone by 0", x.heap(0, 0, 23), 23);
    due.is("alike by 0", x.heap(0, 0, 11), 9);
    due.is("itself", x.heap(0, 0, 9), 9);
    due.is("by 1", x.heap(0, 1, 23), 3);
    due.is("by 11", x.heap(0, 11, 11), 3);
    for (int t : new int[] {0, 3, 7, 9, 11, 23}) due.is("of " + t + " by 24", x.heap(0, 24, t), 0);
    due.is("in another picture", x.heap(1, 0, 23), 22);
  }

  static void heapOfNone(Due due) {
    StuckHands x = Due.reader("t1;0R1;23R1");
    for (int d : new int[] {-1, -2, 25, 26, 256, Integer.MIN_VALUE, Integer.MAX_VALUE}) due.is("heap by " + d, x.heap(0, d, 0), NONE);
    for (int t : Odd.THREADS) due.is("thread " + t, x.heap(0, 0, t), NONE);
    for (int p : Odd.PICTURES) due.is("picture " + p, x.heap(p, 0, 0), NONE);
    due.is("picture -1", x.heap(-1, 0, 0), NONE);
    due.is("picture 1", x.heap(1, 0, 0), NONE);
  }

  static void heapNotThere(Due due) {
    StuckHands x = Due.reader("t1;0R1;1R1;2R1x", "t2;3R1");
    due.is("a thread of another picture", x.heap(0, 24, 3), NONE);
    due.is("a thread whose row is torn", x.heap(0, 24, 2), NONE);
    due.is("the last thread", x.heap(0, 0, 23), NONE);
  }
}
