/** The promises of the document one by one: ordinary inputs, the edges it names, and wrong inputs. */
public final class PromisesTest {
  private static final int[] ODD = {-1, -2, 24, 100, Integer.MIN_VALUE, Integer.MAX_VALUE};
  private static final int[] ODD_PICTURES = {-1, -2, 8, 9, Integer.MIN_VALUE, Integer.MAX_VALUE};
  private static final int NONE = StuckHands.NONE;
  private static final Due due = new Due();

  public static void main(String[] args) {
    newObject();
    feed();
    picture();
    pictureOrder();
    heads();
    torn();
    tornNumbers();
    tornLocks();
    tornRowsDoNotStand();
    mostRows();
    look();
    holder();
    rings();
    foot();
    through();
    weightAndGuilty();
    stuck();
    broken();
    brokenOfLikeOnes();
    meter();
    work();
    distance();
    heaps();
    order();
    count();
    refusedCallsChangeNothing();
    oddNumbers();
    due.end("PromisesTest");
  }

  private static void newObject() {
    StuckHands x = new StuckHands();
    due.is("NONE", NONE, -1);
    due.is("new: pictures", x.count(NONE, 0), 0);
    due.is("new: tape", x.count(NONE, 1), 0);
    due.is("new: M", x.count(NONE, 2), 10000);
    due.is("new: V", x.count(NONE, 3), 10);
    due.is("new: torn", x.torn(0), NONE);
    due.is("new: rings", x.rings(0), NONE);
    due.is("new: stuck", x.stuck(0), NONE);
    due.is("new: broken", x.broken(0), NONE);
    due.is("new: order", x.order(0), NONE);
    StuckHands other = Due.reader("t1;0R1");
    due.is("objects share nothing", x.count(NONE, 0), 0);
    due.is("the other one has its picture", other.count(NONE, 0), 1);
  }

  private static void feed() {
    StuckHands x = new StuckHands();
    for (int i = 1; i <= 15; i++) due.is("feed " + i, x.feed(0, 0, 0, 0, 0), 20 * i);
    due.is("feed beyond 300", x.feed(0, 0, 0, 0, 0), NONE);
    due.is("tape stays at 300", x.count(NONE, 1), 300);
    due.is("picture empties a full tape", x.picture(300), -2);
    due.is("feed again", x.feed(0, 0, 0, 0, 0), 20);
    StuckHands y = new StuckHands();
    y.feed(Due.word("t12;", 0), Due.word("3R45", 0), Due.word("h6ca", 0), Due.word("b;7F", 0), Due.word("8   ", 0));
    due.is("ints come in their order, highest byte first", y.picture(17), 0);
    due.is("tick", y.count(0, 0), 12);
    due.is("thread 3", y.look(0, 3, 1), 45);
    due.is("thread 7", y.look(0, 7, 1), 8);
    StuckHands z = new StuckHands();
    due.is("two feeds", Due.feed(z, "t1;0R1;1R2;2R3;3R4;4R5"), 40);
    due.is("a text over two feeds", z.picture(22), 0);
    due.is("its last row", z.look(0, 4, 1), 5);
  }

  private static void picture() {
    StuckHands x = new StuckHands();
    due.is("no bytes", x.picture(1), NONE);
    due.is("no text is a torn head", x.picture(0), -2);
    Due.feed(x, "t1;0R1");
    due.is("more than the tape has", x.picture(21), NONE);
    due.is("the tape stays", x.count(NONE, 1), 20);
    due.is("fewer than none", x.picture(-1), NONE);
    due.is("least int", x.picture(Integer.MIN_VALUE), NONE);
    due.is("greatest int", x.picture(Integer.MAX_VALUE), NONE);
    due.is("the tape stays still", x.count(NONE, 1), 20);
    due.is("only the first n bytes are read", x.picture(2), 0);
    due.is("no row was read", x.count(0, 1), 0);
    due.is("the whole tape is empty then", x.count(NONE, 1), 0);
    due.is("one of its tick", Due.show(x, "t1;0R1"), -2);
    due.is("one of its tick, written otherwise", Due.show(x, "t0001"), -2);
    due.is("there is none then", x.count(NONE, 0), 1);
    due.is("the tape is empty then, too", x.count(NONE, 1), 0);
    due.is("a whole tape of blanks behind", Due.show(x, "t2"), 1);
    due.is("as long as the tape", Due.show(x, "t3;0R1;1R1;2R1;3R123"), 2);
    due.is("all its rows", x.count(2, 1), 4);
  }

  private static void pictureOrder() {
    StuckHands x = new StuckHands();
    for (int i = 0; i < 8; i++) due.is("picture " + i, Due.show(x, "t" + (20 - i)), i);
    due.is("a ninth", Due.show(x, "t1"), NONE);
    due.is("its tape stays", x.count(NONE, 1), 20);
    due.is("a ninth with a torn head", x.picture(0), NONE);
    due.is("its tape stays, too", x.count(NONE, 1), 20);
    due.is("the last one stands", x.count(7, 0), 13);
    due.is("no ninth", x.count(8, 0), NONE);
  }

  private static void heads() {
    String[] tornHeads = {"", "t", "t;", "T1", "1", "tt1", "t1x", "t 1", "t-1", "t12345", "t10000", "t00001", "t1 ", "t1,",
      ";t1", "t1w", "t1\u00ff", "\u00ff", "t\u00ff", "t1\0", "t1:", "t1/"};
    for (String head : tornHeads) {
      StuckHands x = new StuckHands();
      due.is("head '" + head + "'", Due.show(x, head), -2);
      due.is("head '" + head + "' makes none", x.count(NONE, 0), 0);
    }
    String[] heads = {"t0", "t9", "t10", "t9999", "t0000", "t0042"};
    int[] ticks = {0, 9, 10, 9999, 0, 42};
    for (int i = 0; i < heads.length; i++) {
      StuckHands x = new StuckHands();
      due.is("head " + heads[i], Due.show(x, heads[i]), 0);
      due.is("tick of " + heads[i], x.count(0, 0), ticks[i]);
      due.is("torn of " + heads[i], x.torn(0), NONE);
    }
  }

  private static void tornAt(String text, int want) {
    StuckHands x = Due.reader(text);
    due.is("pictures of '" + text + "'", x.count(NONE, 0), 1);
    due.is("torn of '" + text + "'", x.torn(0), want);
  }

  private static void torn() {
    tornAt("t1", NONE);
    tornAt("t1;", 3);
    tornAt("t1;;", 3);
    tornAt("t1;x", 3);
    tornAt("t1;0", 4);
    tornAt("t1;0x", 4);
    tornAt("t1;0r1", 4);
    tornAt("t1;0;", 4);
    tornAt("t1;0R", 5);
    tornAt("t1;0R;", 5);
    tornAt("t1;0Rh1", 5);
    tornAt("t1;0R1", NONE);
    tornAt("t1;0R1;", 7);
    tornAt("t1;0R1x", 6);
    tornAt("t1;0R1,", 6);
    tornAt("t1;0R1 ", 6);
    tornAt("t1;0R1\u00ff", 6);
    tornAt("t1;0R1w2", 6);
    tornAt("t1;0F1w2", 6);
    tornAt("t1;0F1h3w2", 8);
    tornAt("t1;0W1", 6);
    tornAt("t1;0W1;1R1", 6);
    tornAt("t1;0S1;1R1", 6);
    tornAt("t1;0W1ca", 6);
    tornAt("t1;0S1h2", 8);
    tornAt("t1;0S1h2;1R1", 8);
    tornAt("t1;0S1h2cab", 8);
    tornAt("t1;0W1w", 7);
    tornAt("t1;0W1w;", 7);
    tornAt("t1;0W1w2", NONE);
    tornAt("t1;0W1w2w3", 8);
    tornAt("t1;0W1w2,3", 8);
    tornAt("t1;0W1w2h3", 8);
    tornAt("t1;0R1c", 7);
    tornAt("t1;0R1c;", 7);
    tornAt("t1;0R1cA", 7);
    tornAt("t1;0R1c`", 7);
    tornAt("t1;0R1c{", 7);
    tornAt("t1;0R1ca1", 8);
    tornAt("t1;0R1cazhw", NONE);
    tornAt("t1;0R1cabcdefghijkl", NONE);
    tornAt("t1;0R1cabcdefghijklm", 19);
    tornAt("t1;0R1cabcdefghijkl;1", 21);
    tornAt("t1;0R1;1R1;0R1", 11);
    tornAt("t1;0R1;00R1", 7);
    tornAt("t1;0R1;0", 7);
    StuckHands x = Due.reader("t1;x");
    for (int p : ODD_PICTURES) due.is("torn " + p, x.torn(p), NONE);
  }

  private static void tornNumbers() {
    tornAt("t1;23R1", NONE);
    tornAt("t1;24R1", 3);
    tornAt("t1;99", 3);
    tornAt("t1;023R1", 5);
    tornAt("t1;000R1", 5);
    tornAt("t1;240R1", 5);
    tornAt("t1;0R1;000R1", 9);
    tornAt("t1;0R9999", NONE);
    tornAt("t1;0R0000", NONE);
    tornAt("t1;0R00001", 9);
    tornAt("t1;0R99999", 9);
    tornAt("t1;0R1h15", NONE);
    tornAt("t1;0R1h16", 7);
    tornAt("t1;0R1h160", 9);
    tornAt("t1;0R1h015", 9);
    tornAt("t1;0W1w15", NONE);
    tornAt("t1;0W1w16", 7);
    tornAt("t1;0W1w150", 9);
    tornAt("t1;0W1w99;", 7);
  }

  private static void tornLocks() {
    tornAt("t1;0R1h", 7);
    tornAt("t1;0R1h;", 7);
    tornAt("t1;0R1hc", 7);
    tornAt("t1;0R1h,1", 7);
    tornAt("t1;0R1h1,", 9);
    tornAt("t1;0R1h1,,", 9);
    tornAt("t1;0R1h1,;", 9);
    tornAt("t1;0R1h1h2", 8);
    tornAt("t1;0R1h1,2,3,4", NONE);
    tornAt("t1;0R1h1,2,3,4,", 14);
    tornAt("t1;0R1h1,2,3,4,5", 14);
    tornAt("t1;0R1h1,2,1", 11);
    tornAt("t1;0R1h1,01", 9);
    tornAt("t1;0R1h1,011", 11);
    tornAt("t1;0R1h1,12", NONE);
    tornAt("t1;0R1h1;1R1h2,1", 15);
    tornAt("t1;0W1h1w1", NONE);
    tornAt("t1;0W1h1w2;1W1h2w1", NONE);
  }

  private static void tornRowsDoNotStand() {
    StuckHands x = Due.reader("t1;5R1h1;6W2h2w1;7S3h3w2x;8R1");
    due.is("torn behind two rows", x.torn(0), 24);
    due.is("two rows stand", x.count(0, 1), 2);
    due.is("the torn row does not", x.look(0, 7, 0), NONE);
    due.is("nor what is behind it", x.look(0, 8, 0), NONE);
    due.is("its lock is not held", x.holder(0, 3), NONE);
    due.is("one waits", x.count(0, 2), 1);
    due.is("two locks are held", x.count(0, 3), 2);
    due.is("the torn row waits for nobody", x.weight(0, 2), 0);
    due.is("a row that is ended stands", Due.reader("t1;5R1;").count(0, 1), 1);
    due.is("a row with a call too many does not", Due.reader("t1;5R1cabcdefghijklm").count(0, 1), 0);
    due.is("a W without w does not", Due.reader("t1;5W1;6R1").count(0, 1), 0);
  }

  private static void look() {
    StuckHands x = Due.reader("t1;0R0;1W9999h15w0;2S12h0,3w15caz;23F0007h4,5,6,7cabcdefghijkl");
    int[][] want = {{0, 0, 0, NONE, 0}, {1, 9999, 1 << 15, 0, 0}, {2, 12, 9, 15, 2}};
    for (int t = 0; t < want.length; t++) {
      for (int what = 0; what < 5; what++) due.is("look " + t + " " + what, x.look(0, t, what), want[t][what]);
    }
    due.is("foreign", x.look(0, 23, 0), 3);
    due.is("counter with noughts", x.look(0, 23, 1), 7);
    due.is("four locks", x.look(0, 23, 2), 0xf0);
    due.is("no w", x.look(0, 23, 3), NONE);
    due.is("twelve calls", x.look(0, 23, 4), 12);
    for (int i = 0; i < 12; i++) due.is("call " + i, x.look(0, 23, 10 + i), 'a' + i);
    due.is("call 12", x.look(0, 23, 22), NONE);
    due.is("first call", x.look(0, 2, 10), 'a');
    due.is("second call", x.look(0, 2, 11), 'z');
    due.is("third call", x.look(0, 2, 12), NONE);
    due.is("no call", x.look(0, 0, 10), NONE);
    for (int what = 5; what < 10; what++) due.is("look at " + what, x.look(0, 23, what), NONE);
    for (int what : new int[] {-1, Integer.MIN_VALUE, Integer.MAX_VALUE}) due.is("look at " + what, x.look(0, 23, what), NONE);
    for (int t : ODD) due.is("look at thread " + t, x.look(0, t, 0), NONE);
    due.is("a thread that is not there", x.look(0, 3, 0), NONE);
    due.is("a picture that is not there", x.look(1, 0, 0), NONE);
  }

  private static void holder() {
    StuckHands x = Due.reader("t1;4R1h0,15;9W1h7w0", "t2;5R1h0");
    due.is("lock 0", x.holder(0, 0), 4);
    due.is("lock 15", x.holder(0, 15), 4);
    due.is("lock 7", x.holder(0, 7), 9);
    due.is("lock 1", x.holder(0, 1), NONE);
    due.is("lock 0 in picture 1", x.holder(1, 0), 5);
    due.is("lock 7 in picture 1", x.holder(1, 7), NONE);
    due.is("lock 16", x.holder(0, 16), NONE);
    due.is("lock -1", x.holder(0, -1), NONE);
    due.is("picture 2", x.holder(2, 0), NONE);
  }

  /** Thread 3 waits for itself, 7 and 5 and 9 go round, 1 and 20 do, and 0 and 4 hang at rings. */
  private static void rings() {
    StuckHands x = Due.reader("t1;7W1h7w5;5W1h5w9;9S1h9w7;3W1h3w3;20W1h2w1;1S1h1w2;0W1h0w7;4W1w0;8R1h8;6W1w8");
    due.is("rings", x.rings(0), 3);
    int[][] want = {{1, 20}, {3}, {5, 9, 7}};
    for (int r = 0; r < want.length; r++) {
      for (int i = 0; i < want[r].length; i++) due.is("ring " + r + " " + i, x.ring(0, r, i), want[r][i]);
      due.is("ring " + r + " ends", x.ring(0, r, want[r].length), NONE);
      for (int i : ODD) due.is("ring " + r + " at " + i, x.ring(0, r, i), NONE);
    }
    due.is("no ring 3", x.ring(0, 3, 0), NONE);
    for (int r : ODD) due.is("ring " + r, x.ring(0, r, 0), NONE);
    due.is("no picture 1", x.rings(1), NONE);
    due.is("no ring of picture 1", x.ring(1, 0, 0), NONE);
    due.is("a tree has no ring", Due.reader("t1;0W1h0w1;1W1h1w2;2R1h2").rings(0), 0);
    StuckHands widest = Due.reader(ringOfLocks(16));
    due.is("a ring of sixteen", widest.rings(0), 1);
    due.is("its last", widest.ring(0, 0, 15), 15);
    due.is("not more", widest.ring(0, 0, 16), NONE);
    due.is("all wait through each", widest.through(0, 8), 15);
  }

  private static String ringOfLocks(int size) {
    StringBuilder text = new StringBuilder("t1");
    for (int t = 0; t < size; t++) text.append(";").append(t).append("W1h").append(t).append("w").append((t + 1) % size);
    return text.toString();
  }

  private static void foot() {
    StuckHands x = Due.reader("t1;0W1h0w1;1W1h1w2;2R1h2;3S1w9;4W1h4w4;5W1w4;6S1h6w15;7W1w6;8F1;9W1w0");
    int[] want = {2, 2, NONE, 3, NONE, NONE, 6, 6, NONE, 2, NONE};
    for (int t = 0; t < want.length; t++) due.is("foot of " + t, x.foot(0, t), want[t]);
    for (int t : ODD) due.is("foot of " + t, x.foot(0, t), NONE);
    due.is("foot in no picture", x.foot(1, 0), NONE);
    StringBuilder line = new StringBuilder("t1;16R1h15");
    for (int t = 0; t < 15; t++) line.append(";").append(t).append("W1h").append(t).append("w").append(t + 1);
    due.is("foot of the longest line", Due.reader(line.toString()).foot(0, 0), 16);
  }

  private static void through() {
    StuckHands x = Due.reader("t1;0W1h0w1;1W1h1w2;2R1h2;3W1w1;4W1h4w4;5W1w4;6W1h6w7;7W1h7w6;8W1w6;9W1w10");
    int[] want = {0, 2, 3, 0, 1, 0, 2, 2, 0, 0, NONE};
    for (int t = 0; t < want.length; t++) due.is("through " + t, x.through(0, t), want[t]);
    for (int t : ODD) due.is("through " + t, x.through(0, t), NONE);
    due.is("through in no picture", x.through(1, 0), NONE);
  }

  private static void weightAndGuilty() {
    StuckHands x = Due.reader("t1;0W1h0w1;1W1h1w2;2R1h2;3W1w1;4W1h4w4;5W1w4;6W1h6w7;7W1h7w6;8W1w6;9W1w10", "t2;0R1h0",
      "t3;0W1w9;1W1w3;2W1w9;3W1w3", "t4;0W1w15", "t5;0W1h0w1;1R1h1;2W1w0;3W1w5;4W1w5;5W1w5");
    int[] want = {0, 2, 3, 0, 2, 0, 3, 3, 0, 0, 1, 0, 0, 0, 0, 0, NONE};
    for (int l = 0; l < want.length; l++) due.is("weight of " + l, x.weight(0, l), want[l]);
    due.is("of like ones the lowest", x.guilty(0), 2);
    due.is("nobody waits: weight", x.weight(1, 0), 0);
    due.is("nobody waits: guilty", x.guilty(1), NONE);
    due.is("like ones that nobody holds", x.guilty(2), 3);
    due.is("the last lock", x.guilty(3), 15);
    due.is("not the lowest, the heaviest", x.guilty(4), 5);
    due.is("weight below it", x.weight(4, 1), 2);
    due.is("the first lock", Due.reader("t1;0W1w0;1W1w1").guilty(0), 0);
    due.is("weight of -1", x.weight(0, -1), NONE);
    for (int p : ODD_PICTURES) due.is("weight in " + p, x.weight(p, 0), NONE);
    for (int p : ODD_PICTURES) due.is("guilty in " + p, x.guilty(p), NONE);
  }

  private static void stuck() {
    StuckHands x = new StuckHands();
    Due.show(x, "t1;3W5h1,2w4cab;0R1;9F7;11R1;12S2w3;13R1h9;14R1cab;15R1cab;16W1w1;23R0;20R1ca");
    due.is("one picture is not enough", x.stuck(0), NONE);
    Due.show(x, "t2;3W5h2,1w4cab;0R2;9R7;12S2w4;13R1h8;14R1cabc;15R1cac;16S1w1;23R0000;20R1");
    due.is("locks in another order are the same", x.stuck(0), 3);
    due.is("the next", x.stuck(1), 23);
    due.is("no more", x.stuck(2), NONE);
    for (int i : ODD) due.is("stuck " + i, x.stuck(i), NONE);
    Due.show(x, "t0;11R1");
    due.is("pictures that have it not don't count", x.stuck(1), 11);
    due.is("the next moves on", x.stuck(2), 23);
    Due.show(x, "t3;23R1");
    due.is("all that have it must be alike", x.stuck(2), NONE);
    due.is("the first call counts, too", Due.reader("t1;0R1cab", "t2;0R1cbb").stuck(0), NONE);
    due.is("twelve calls alike", Due.reader("t1;5R1cabcdefghijkl", "t2;5R1cabcdefghijkl").stuck(0), 5);
    due.is("the twelfth call counts, too", Due.reader("t1;5R1cabcdefghijkl", "t2;5R1cabcdefghijkm").stuck(0), NONE);
    due.is("calls that begin alike are not alike", Due.reader("t1;0R1cab", "t2;0R1ca").stuck(0), NONE);
    StuckHands y = Due.reader("t1;0R1", "t2;0R3");
    y.meter(2, 1);
    due.is("counters are alike as they stand, not by their rest", y.stuck(0), NONE);
  }

  /** All threads in one picture, and one row more. */
  private static void mostRows() {
    StringBuilder text = new StringBuilder("t1");
    for (int t = 23; t >= 0; t--) text.append(";").append(t).append("R1c").append((char) ('a' + t % 12));
    int end = text.length();
    StuckHands x = Due.reader(text.toString(), text.append(";7R1").toString().replace("t1", "t2"));
    for (int p = 0; p < 2; p++) {
      due.is("all threads", x.count(p, 1), 24);
      due.is("heaps of all threads", x.heaps(p, 0), 12);
      due.is("one heap of all threads", x.heaps(p, 1), 1);
      due.is("heap of the last", x.heap(p, 0, 23), 11);
      due.is("heap of the first", x.heap(p, 0, 12), 0);
      due.is("lowest of all", x.heap(p, 1, 23), 0);
    }
    due.is("all rows stand", x.torn(0), NONE);
    due.is("one more is torn", x.torn(1), end + 1);
    for (int t = 0; t < 24; t++) due.is("stuck of all threads", x.stuck(t), t);
    due.is("no more than all", x.stuck(24), NONE);
  }

  private static void order(StuckHands x, String what, int... locks) {
    for (int i = 0; i < locks.length; i++) due.is(what + ": broken " + i, x.broken(i), locks[i]);
    due.is(what + ": broken ends", x.broken(locks.length), NONE);
    for (int i : new int[] {-1, 16, Integer.MIN_VALUE, Integer.MAX_VALUE}) due.is(what + ": broken " + i, x.broken(i), NONE);
  }

  private static void broken() {
    StuckHands x = new StuckHands();
    order(x, "no picture");
    Due.show(x, "t1;0W1h4w4");
    order(x, "a lock is not ahead of itself");
    Due.show(x, "t2;0W1h3w5;1R1h5");
    order(x, "one order");
    Due.show(x, "t3;1S1h5w8");
    order(x, "a line");
    Due.show(x, "t4;7S1h2,8w3");
    order(x, "a ring over three pictures", 3, 5, 8);
    due.is("no ring stands in it", x.rings(3), 0);
    Due.show(x, "t5;7S1h14w15;8S1h15w14");
    order(x, "a shorter one, of higher locks", 14, 15);
    Due.show(x, "t6;7S1h9w12x");
    Due.show(x, "t7;7S1h12w9");
    order(x, "a torn row is no order", 14, 15);
    Due.show(x, "t8;7S1h9w12");
    order(x, "a like one of lower locks", 9, 12);
    order(Due.reader(ringOfLocks(16)), "all locks", 0, 1, 2, 3, 4, 5, 6, 7, 8, 9, 10, 11, 12, 13, 14, 15);
  }

  private static void brokenOfLikeOnes() {
    order(Due.reader("t1;0W1h0w5;1W1h5w9;2W1h9w0", "t2;0W1h0w7;1W1h7w2;2W1h2w0"), "the second lock decides", 0, 5, 9);
    order(Due.reader("t1;0W1h0w5;1W1h5w9;2W1h9w0", "t2;0W1h5w7;1W1h7w0"), "the third lock decides", 0, 5, 7);
    order(Due.reader("t1;0W1h0w2;1W1h2w3;2W1h3w4;3W1h4w0", "t2;0W1h0w6;1W1h6w7;2W1h7w0"), "fewest first", 0, 6, 7);
    order(Due.reader("t1;0W1h6w2;1W1h2w9;2W1h9w6"), "begun at its lowest", 2, 9, 6);
    order(Due.reader("t1;0W1h0w1;1W1h1w2;2W1h2w3", "t2;0W1h3w1"), "a ring that does not hold the lock it is reached by", 1, 2, 3);
    order(Due.reader("t1;0W1h1w3;1W1h3w4;2W1h4w1", "t2;0W1h3w0;1W1h0w2"), "dead ends aside", 1, 3, 4);
    order(Due.reader("t1;0W1h0,1w2;1W1h2,3w1"), "each lock held is ahead", 1, 2);
    order(Due.reader("t1;0W1h0w1;1W1h1w0"), "the first two locks", 0, 1);
    order(Due.reader("t1;0W1h0w1;1W1h1w3;2W1h3w4;3W1h4w0", "t2;0W1h0w2;1W1h2w5;2W1h5w6;3W1h6w0"), "two ways back of one length", 0, 1, 3, 4);
    order(Due.reader("t1;0W1h0w1;1W1h1w6;2W1h6w5;3W1h5w0", "t2;0W1h1w3;1W1h3w4;2W1h4w0"), "two ways from one lock", 0, 1, 3, 4);
  }

  private static void meterIs(StuckHands x, int m, int v) {
    due.is("M", x.count(NONE, 2), m);
    due.is("V", x.count(NONE, 3), v);
  }

  private static void meter() {
    StuckHands x = new StuckHands();
    meterIs(x, 10000, 10);
    due.is("least", x.meter(2, 0), true);
    meterIs(x, 2, 0);
    int[][] wrong = {{1, 5}, {0, 5}, {-1, 5}, {10001, 5}, {5, -1}, {5, 101}, {Integer.MIN_VALUE, 5}, {Integer.MAX_VALUE, 5},
      {5, Integer.MIN_VALUE}, {5, Integer.MAX_VALUE}};
    for (int[] pair : wrong) {
      due.is("meter " + pair[0] + " " + pair[1], x.meter(pair[0], pair[1]), false);
      meterIs(x, 2, 0);
    }
    due.is("greatest", x.meter(10000, 100), true);
    meterIs(x, 10000, 100);
  }

  private static void workIs(StuckHands x, int t, int p, int q, int least, int greatest, int numbers) {
    int[] want = {least, greatest, numbers};
    for (int what = 0; what < 3; what++) {
      due.is("work " + t + " " + p + " " + q + " " + what, x.work(t, p, q, what), want[what]);
      due.is("work " + t + " " + q + " " + p + " " + what, x.work(t, q, p, what), want[what]);
    }
  }

  private static void work() {
    StuckHands x = Due.reader("t20;0R7;1R100;2R5", "t10;0R9998;1R99;2R5", "t12;0R3;2R9999", "t9999;2R0", "t0;2R0");
    workIs(x, 0, 0, 1, 9, 9, 1);
    workIs(x, 1, 0, 1, 1, 1, 1);
    workIs(x, 2, 0, 1, 0, 0, 1);
    workIs(x, 0, 1, 2, 5, 5, 1);
    workIs(x, 0, 0, 2, 4, 4, 1);
    workIs(x, 2, 1, 2, NONE, NONE, 0);
    workIs(x, 1, 0, 2, NONE, NONE, NONE);
    workIs(x, 0, 0, 0, NONE, NONE, NONE);
    workIs(x, 24, 0, 1, NONE, NONE, NONE);
    workIs(x, -1, 0, 1, NONE, NONE, NONE);
    workIs(x, 23, 0, 1, NONE, NONE, NONE);
    workIs(x, 0, 0, 5, NONE, NONE, NONE);
    workIs(x, 0, 0, -1, NONE, NONE, NONE);
    for (int what : new int[] {-1, 3, Integer.MIN_VALUE, Integer.MAX_VALUE}) due.is("work what", x.work(0, 0, 1, what), NONE);
    x.meter(50, 10);
    workIs(x, 0, 0, 1, 9, 59, 2);
    workIs(x, 2, 0, 1, 0, 100, 3);
    x.meter(10, 1);
    workIs(x, 0, 0, 1, 9, 9, 1);
    workIs(x, 2, 0, 1, 0, 10, 2);
    x.meter(100, 1);
    workIs(x, 0, 0, 1, 9, 9, 1);
    workIs(x, 1, 0, 1, 1, 1, 1);
    workIs(x, 0, 1, 2, NONE, NONE, 0);
    x.meter(7, 0);
    workIs(x, 2, 0, 1, 0, 0, 1);
    workIs(x, 0, 0, 1, NONE, NONE, 0);
    x.meter(2, 100);
    workIs(x, 2, 3, 4, 0, 999900, 499951);
  }

  private static void distance() {
    StuckHands x = Due.reader("t1;0R1;1R1cabc;2R1cabc;3R1cbc;4R1cxabc;5R1cabd;6R1ccba;7R1cabcdefghijkl;8R1cbcdefghijklm;9R1cmmmmmmmmmmmm;10R1cqrstu;11R1crstuv;12R1cqqsttuu",
      "t2;0R1ckitten;1R1csitting");
    int[][] want = {{0, 0, 0}, {1, 2, 0}, {1, 3, 1}, {1, 4, 1}, {1, 5, 1}, {1, 6, 2}, {0, 1, 3}, {0, 7, 12}, {7, 8, 2}, {7, 9, 12},
      {3, 4, 2}, {8, 9, 11}, {10, 11, 2}, {10, 12, 3}};
    for (int[] row : want) {
      due.is("distance " + row[0] + " " + row[1], x.distance(0, row[0], row[1]), row[2]);
      due.is("distance " + row[1] + " " + row[0], x.distance(0, row[1], row[0]), row[2]);
    }
    due.is("kitten, sitting", x.distance(1, 0, 1), 3);
    due.is("to itself", x.distance(0, 7, 7), 0);
    due.is("one is not there", x.distance(0, 0, 13), NONE);
    due.is("the other is not there", x.distance(0, 13, 0), NONE);
    due.is("not there, to itself", x.distance(0, 13, 13), NONE);
    for (int t : ODD) due.is("distance to " + t, x.distance(0, 0, t), NONE);
    for (int t : ODD) due.is("distance from " + t, x.distance(0, t, 0), NONE);
    for (int p : ODD_PICTURES) due.is("distance in " + p, x.distance(p, 0, 0), NONE);
  }

  private static void heaps() {
    StuckHands x = Due.reader("t1;20R1ca;3R1cab;7R1cabc;9R1czzzz;11R1czzzz;15R1cyyyyyyyyyyyy;21R1", "t2", "t3;5R1cab;6R1ccd;7R1ccb");
    int[][] counts = {{0, 6}, {1, 3}, {2, 3}, {3, 3}, {4, 2}, {11, 2}, {12, 1}, {24, 1}};
    for (int[] row : counts) due.is("heaps by " + row[0], x.heaps(0, row[0]), row[1]);
    due.is("heap of 20 by 0", x.heap(0, 0, 20), 20);
    due.is("heap of 11 by 0", x.heap(0, 0, 11), 9);
    due.is("heap of 9 by 0", x.heap(0, 0, 9), 9);
    due.is("heap of 7 by 1: hung by others", x.heap(0, 1, 7), 3);
    due.is("heap of 20 by 1", x.heap(0, 1, 20), 3);
    due.is("heap of 21 by 1: no calls", x.heap(0, 1, 21), 3);
    due.is("heap of 11 by 3", x.heap(0, 3, 11), 9);
    due.is("heap of 11 by 4", x.heap(0, 4, 11), 3);
    due.is("heap of 15 by 11", x.heap(0, 11, 15), 15);
    due.is("heap of 15 by 12", x.heap(0, 12, 15), 3);
    due.is("heap of 6 by way of 7", x.heap(2, 1, 6), 5);
    due.is("no threads", x.heaps(1, 0), 0);
    due.is("heap of one that is not there", x.heap(0, 0, 0), NONE);
    for (int d : new int[] {-1, 25, Integer.MIN_VALUE, Integer.MAX_VALUE}) {
      due.is("heaps by " + d, x.heaps(0, d), NONE);
      due.is("heap by " + d, x.heap(0, d, 3), NONE);
    }
    for (int t : ODD) due.is("heap of " + t, x.heap(0, 0, t), NONE);
    for (int p : ODD_PICTURES) due.is("heaps in " + p, x.heaps(p, 0), NONE);
    for (int p : ODD_PICTURES) due.is("heap in " + p, x.heap(p, 0, 3), NONE);
  }

  private static void order() {
    StuckHands x = Due.reader("t50", "t7", "t9999", "t0", "t300");
    int[] want = {3, 1, 0, 4, 2, NONE};
    for (int i = 0; i < want.length; i++) due.is("order " + i, x.order(i), want[i]);
    for (int i : ODD) due.is("order " + i, x.order(i), NONE);
    Due.show(x, "t8");
    due.is("one comes between", x.order(2), 5);
    due.is("the last moves on", x.order(5), 2);
  }

  private static void count() {
    StuckHands x = Due.reader("t77;0W1h0,1w2;1S1w3;2R1h4;3F1", "t8");
    int[] want = {77, 4, 2, 3};
    int[] empty = {8, 0, 0, 0};
    Due.feed(x, "x");
    int[] own = {2, 20, 10000, 10};
    for (int what = 0; what < 4; what++) {
      due.is("count 0 " + what, x.count(0, what), want[what]);
      due.is("count 1 " + what, x.count(1, what), empty[what]);
      due.is("count NONE " + what, x.count(NONE, what), own[what]);
    }
    for (int what : new int[] {-1, 4, Integer.MIN_VALUE, Integer.MAX_VALUE}) {
      due.is("count 0 " + what, x.count(0, what), NONE);
      due.is("count NONE " + what, x.count(NONE, what), NONE);
    }
    for (int p : new int[] {-2, 2, 8, Integer.MIN_VALUE, Integer.MAX_VALUE}) due.is("count " + p, x.count(p, 0), NONE);
  }

  private static void refusedCallsChangeNothing() {
    StuckHands x = Due.reader("t1;0W1h0w1cab;1W2h1w0", "t2;0W1h0w1cab");
    x.meter(1, 1);
    Due.show(x, "t2;5R1h3");
    Due.show(x, "x");
    x.picture(1);
    due.is("pictures", x.count(NONE, 0), 2);
    due.is("threads", x.count(1, 1), 1);
    due.is("stuck", x.stuck(0), 0);
    due.is("broken", x.broken(1), 1);
    due.is("rings", x.rings(0), 1);
    meterIs(x, 10000, 10);
  }

  private static void oddNumbers() {
    StuckHands x = Due.reader("t1;0W1h0w1cab;1W2h1w0");
    for (int p : new int[] {-1, -2, 1, 8, Integer.MIN_VALUE, Integer.MAX_VALUE}) {
      due.is("torn " + p, x.torn(p), NONE);
      due.is("look " + p, x.look(p, 0, 0), NONE);
      due.is("holder " + p, x.holder(p, 0), NONE);
      due.is("rings " + p, x.rings(p), NONE);
      due.is("ring " + p, x.ring(p, 0, 0), NONE);
      due.is("foot " + p, x.foot(p, 0), NONE);
      due.is("through " + p, x.through(p, 0), NONE);
      due.is("work " + p, x.work(0, p, 0, 2), NONE);
      due.is("work to " + p, x.work(0, 0, p, 2), NONE);
      for (int l : new int[] {-1, 16, Integer.MIN_VALUE, Integer.MAX_VALUE}) {
        due.is("holder of " + l, x.holder(0, l), NONE);
        due.is("weight of " + l, x.weight(0, l), NONE);
      }
    }
  }
}
