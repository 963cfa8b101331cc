import java.util.function.Consumer;

/** The edges of the reader as a whole: its calls, its tape and the pictures that come (promises 1 to 3). */
final class TapeEdges {
  private static final int NONE = StuckHands.NONE;
  private static final String[] SHOWN = {"t5;0W1h1w2cab;1W2h2w1cb;2R3h3;3S4w3", "t2;0W1h1w2cab;3S5w4;4F1!"};

  private TapeEdges() {
  }

  /** A text of 300 bytes that has all threads. */
  static String longestText() {
    StringBuilder text = new StringBuilder("t1");
    for (int t = 23; t >= 0; t--) {
      text.append(";").append(t).append("R1");
      if (t < 14) text.append("cabcdefghijkl");
      if (t == 14) text.append("cabcde");
    }
    return text.toString();
  }

  private static StuckHands withEight() {
    StuckHands x = new StuckHands();
    for (int p = 0; p < 8; p++) Due.show(x, "t" + (30 - p));
    return x;
  }

  /** Some two hundred answers, so that an object stays under its 512 calls. */
  private static String answers(StuckHands x) {
    StringBuilder all = new StringBuilder();
    for (int p = 0; p < 3; p++) {
      all.append(x.torn(p)).append(' ').append(x.rings(p)).append(' ').append(x.ring(p, 0, 1)).append(' ');
      all.append(x.guilty(p)).append(' ').append(x.heaps(p, 1)).append(' ').append(x.distance(p, 0, 1)).append(' ');
      for (int what = 0; what < 4; what++) all.append(x.count(p, what)).append(' ');
      for (int t = 0; t < 5; t++) {
        for (int what = 0; what < 5; what++) all.append(x.look(p, t, what)).append(' ');
        all.append(x.foot(p, t)).append(' ').append(x.through(p, t)).append(' ').append(x.heap(p, 0, t)).append(' ');
      }
      for (int l = 0; l < 5; l++) all.append(x.holder(p, l)).append(' ').append(x.weight(p, l)).append(' ');
    }
    for (int i = 0; i < 4; i++) {
      all.append(x.stuck(i)).append(' ').append(x.broken(i)).append(' ').append(x.order(i)).append(' ');
      all.append(x.count(NONE, i)).append(' ').append(x.work(3, 0, 1, i)).append(' ');
    }
    return all.toString();
  }

  static void calls512(Due due) {
    StuckHands x = new StuckHands();
    int calls = 0;
    for (int p = 0; p < 7; p++) {
      String text = longestText().replace("t1;", "t" + p + ";");
      Due.feed(x, text);
      due.is("picture " + p, x.picture(300), p);
      calls += 16;
    }
    for (; calls < 510; calls++) due.is("heaps at call " + calls, x.heaps(calls % 7, 0), 3);
    due.is("call 511", x.feed(Due.word("t12;", 0), Due.word("4R5 ", 0), 0, 0, 0), 20);
    due.is("call 512", x.picture(7), 7);
    StuckHands y = new StuckHands();
    for (int i = 1; i < 512; i++) y.meter(2 + i, i % 101);
    due.is("call 512 of another", y.count(NONE, 2), 513);
    int ended = 0;
    for (int i = 0; i < 2000; i++) {
      Due.show(y, "t" + i + ";0R1");
      ended++;
    }
    due.is("later calls that end, with any answer", ended, 2000);
  }

  static void constant(Due due) {
    due.is("NONE", StuckHands.NONE, -1);
  }

  static void readersShareNothing(Due due) {
    StuckHands x = Due.reader(SHOWN);
    String before = answers(Due.reader(SHOWN));
    StuckHands other = Due.reader("t5;0R9h0;1W9w0", "t6;1W9w0", "t7;8W1h0w1;9W1h1w0");
    other.meter(2, 1);
    Due.feed(other, "t8;0R1;1R1;2R1;3R1;4R1;5R1");
    due.is("the one has not what the other was shown", answers(x).equals(before), true);
    due.is("the other has its own pictures", other.count(NONE, 0), 3);
    due.is("its own tape", other.count(NONE, 1), 40);
    due.is("its own meter", other.count(NONE, 2), 2);
    due.is("its own rows", other.look(0, 0, 1), 9);
    StuckHands third = new StuckHands();
    due.is("a tape that another filled is empty", third.picture(1), NONE);
    due.is("a new one has no picture", third.count(NONE, 0), 0);
    due.is("no meter of another", third.count(NONE, 2), 10000);
    due.is("no stuck thread of another", third.stuck(0), NONE);
    due.is("no broken order of another", third.broken(0), NONE);
    due.is("all ticks are free", Due.show(third, "t5"), 0);
    due.is("no row of another", third.count(0, 1), 0);
  }

  private static void refused(Due due, String call, Consumer<StuckHands> calls) {
    StuckHands x = Due.reader(SHOWN);
    x.meter(7, 3);
    String before = answers(x);
    StuckHands y = Due.reader(SHOWN);
    y.meter(7, 3);
    calls.accept(y);
    String after = answers(y);
    due.is("after " + call + " all is as it was: " + before + " and not " + after, after.equals(before), true);
  }

  static void refusedCalls(Due due) {
    refused(due, "meter", x -> due.is("meter", x.meter(1, 5) || x.meter(10001, 5) || x.meter(9, -1) || x.meter(9, 101), false));
    refused(due, "picture of too many", x -> due.is("picture", x.picture(1), NONE));
    refused(due, "picture of -1", x -> due.is("picture", x.picture(-1), NONE));
    refused(due, "picture with a torn head", x -> due.is("picture", Due.show(x, "x9;0R1h5;4W1h0w1;5W1h1w0"), -2));
    refused(due, "picture of a tick that is there", x -> due.is("picture", Due.show(x, "t5;0R9h5;4W1h0w1;5W1h1w0"), -2));
    refused(due, "picture of a tick that is there, torn behind", x -> due.is("picture", Due.show(x, "t2;0R9h5;4W1h0w1;5W1h1w0;x"), -2));
    refused(due, "questions", x -> {
      due.is("look", x.look(0, 24, 0), NONE);
      due.is("work", x.work(0, 0, 0, 0), NONE);
      due.is("heaps", x.heaps(0, 25), NONE);
      due.is("heap", x.heap(0, -1, 0), NONE);
      due.is("count", x.count(-2, 0), NONE);
      due.is("ring", x.ring(0, 9, 0), NONE);
    });
    StuckHands full = new StuckHands();
    Due.feed(full, longestText());
    due.is("feed beyond 300", full.feed(-1, -1, -1, -1, -1), NONE);
    due.is("its bytes are as they were", full.picture(300), 0);
    due.is("all of them", full.torn(0), NONE);
    StuckHands eight = withEight();
    due.is("a ninth", Due.show(eight, "t3;0R1"), NONE);
    due.is("there are eight", eight.count(NONE, 0), 8);
    due.is("as they were", eight.count(7, 0) * 100 + eight.count(7, 1), 2300);
  }

  static void noPictures(Due due) {
    StuckHands x = new StuckHands();
    due.is("pictures", x.count(NONE, 0), 0);
    due.is("bytes of the tape", x.count(NONE, 1), 0);
    due.is("M", x.count(NONE, 2), 10000);
    due.is("V", x.count(NONE, 3), 10);
    int[] answers = {x.torn(0), x.look(0, 0, 0), x.holder(0, 0), x.rings(0), x.ring(0, 0, 0), x.foot(0, 0), x.through(0, 0),
      x.weight(0, 0), x.guilty(0), x.stuck(0), x.broken(0), x.work(0, 0, 1, 2), x.distance(0, 0, 0), x.heaps(0, 0),
      x.heap(0, 0, 0), x.order(0), x.count(0, 0), x.picture(1)};
    for (int i = 0; i < answers.length; i++) due.is("answer " + i + " of a new object", answers[i], NONE);
    due.is("the first picture is 0", Due.show(x, "t0"), 0);
  }

  static void behindTheTape(Due due) {
    StuckHands x = new StuckHands();
    x.feed(Due.word("t3;0", 0), Due.word("R1;1", 0), Due.word("R2;2", 0), Due.word("R3;3", 0), Due.word("R4;4", 0));
    x.feed(Due.word("R5;5", 0), Due.word("R6;6", 0), Due.word("R7;7", 0), Due.word("R8;8", 0), Due.word("R9;9", 0));
    due.is("two feeds are one text", x.picture(34), 0);
    due.is("torn", x.torn(0), NONE);
    for (int t = 0; t < 8; t++) due.is("counter of thread " + t, x.look(0, t, 1), t + 1);
    due.is("the ninth is behind the text", x.count(0, 1), 8);
    due.is("a feed to an emptied tape comes first", Due.show(x, "t4;9R7"), 1);
    due.is("its row", x.look(1, 9, 1), 7);
  }

  static void highestFirst(Due due) {
    StuckHands x = new StuckHands();
    x.feed(0x7431323b, 0x31325233, 0x34683536, 0x20202020, 0x20202020);
    due.is("t12;12R34h5", x.picture(11), 0);
    due.is("tick", x.count(0, 0), 12);
    due.is("thread 12", x.look(0, 12, 1), 34);
    due.is("its lock", x.holder(0, 5), 12);
    StuckHands y = new StuckHands();
    y.feed(0x74313b30, 0x5231ffff, 0xffffffff, 0x80808080, Integer.MIN_VALUE);
    due.is("bytes of 128 and more stand where they are", y.picture(20), 0);
    due.is("and not elsewhere", y.torn(0), 6);
    StuckHands z = new StuckHands();
    z.feed(0xf4313b30, 0, 0, 0, 0);
    due.is("t with its highest bit set is no t", z.picture(2), -2);
  }

  static void howManyItHas(Due due) {
    StuckHands x = new StuckHands();
    for (int i = 1; i <= 15; i++) {
      due.is("feed " + i, x.feed(0, 0, 0, 0, 0), 20 * i);
      due.is("bytes of the tape", x.count(NONE, 1), 20 * i);
    }
    x.picture(0);
    due.is("feed to an emptied tape", x.feed(0, 0, 0, 0, 0), 20);
  }

  static void moreThan300(Due due) {
    StuckHands x = new StuckHands();
    Due.feed(x, longestText());
    due.is("300 are not more than 300", x.count(NONE, 1), 300);
    for (int i = 0; i < 5; i++) due.is("feed beyond 300", x.feed(0, 0, 0, 0, 0), NONE);
    due.is("bytes of the tape", x.count(NONE, 1), 300);
    due.is("the last byte is as it was", x.picture(300) * 100 + x.count(0, 1), 24);
    due.is("feed again", x.feed(0, 0, 0, 0, 0), 20);
    StuckHands eight = withEight();
    for (int i = 1; i <= 15; i++) due.is("feed though eight are there", eight.feed(0, 0, 0, 0, 0), 20 * i);
    due.is("feed beyond 300 though eight are there", eight.feed(0, 0, 0, 0, 0), NONE);
  }

  static void firstBytes(Due due) {
    String text = "t1;0R12;1R1;2R345678";
    int[] lengths = {2, 6, 7, 11, 15, 16, 18, 20};
    int[] threads = {0, 1, 1, 2, 3, 3, 3, 2};
    for (int i = 0; i < lengths.length; i++) {
      StuckHands x = new StuckHands();
      Due.feed(x, text);
      due.is("picture of " + lengths[i], x.picture(lengths[i]), 0);
      due.is("threads of " + lengths[i] + " bytes", x.count(0, 1), threads[i]);
    }
    StuckHands x = new StuckHands();
    Due.feed(x, longestText());
    due.is("all 300 bytes", x.picture(300), 0);
    due.is("all threads", x.count(0, 1), 24);
    due.is("the last byte is read", x.look(0, 0, 21), 'l');
    due.is("no byte of none is a head", new StuckHands().picture(0), -2);
    StuckHands y = new StuckHands();
    Due.feed(y, "t1");
    due.is("no byte of twenty is a head", y.picture(0), -2);
  }

  static void emptyThen(Due due) {
    StuckHands x = new StuckHands();
    Due.feed(x, "t1;0R1;1R1;2R1;3R1;4R1;5R1");
    due.is("picture of 2 of 40", x.picture(2), 0);
    due.is("bytes of the tape behind a picture", x.count(NONE, 1), 0);
    due.is("none is left", x.picture(1), NONE);
    Due.feed(x, "x");
    due.is("a torn head", x.picture(1), -2);
    due.is("bytes of the tape behind a torn head", x.count(NONE, 1), 0);
    Due.feed(x, "t1");
    due.is("a tick that is there", x.picture(2), -2);
    due.is("bytes of the tape behind a tick that is there", x.count(NONE, 1), 0);
    Due.feed(x, "t2");
    due.is("no bytes", x.picture(0), -2);
    due.is("bytes of the tape behind no bytes", x.count(NONE, 1), 0);
  }

  static void itsNumber(Due due) {
    StuckHands x = new StuckHands();
    for (int p = 0; p < 8; p++) {
      due.is("picture of a torn head", Due.show(x, "t"), -2);
      due.is("picture " + p, Due.show(x, "t" + (100 - p) + ";x"), p);
      due.is("pictures", x.count(NONE, 0), p + 1);
    }
  }

  static void headIsTorn(Due due) {
    for (String head : new String[] {"", "t", "x", "t12345", "t1x", "t;0R1"}) {
      StuckHands x = Due.reader("t9");
      due.is("picture of '" + head + "'", Due.show(x, head), -2);
      due.is("pictures after '" + head + "'", x.count(NONE, 0), 1);
    }
    due.is("a row that is torn is no torn head", Due.show(new StuckHands(), "t1;x"), 0);
  }

  static void tickIsThere(Due due) {
    StuckHands x = Due.reader("t1", "t2;x", "t9999");
    for (String text : new String[] {"t1", "t01", "t0001;0R1", "t2", "t9999;0R1"}) due.is("picture of " + text, Due.show(x, text), -2);
    due.is("a tick of a refused one is free", Due.show(x, "t3x") + Due.show(x, "t3"), 1);
    due.is("tick 0", Due.show(x, "t0"), 4);
    due.is("tick 0 again", Due.show(x, "t00"), -2);
  }

  static void noneThen(Due due) {
    StuckHands x = Due.reader("t1;0R1", "t1;1R1h3", "t;2R1h4", "t2x;3R1h5");
    due.is("pictures", x.count(NONE, 0), 1);
    due.is("picture 1", x.count(1, 0), NONE);
    due.is("threads of picture 0", x.count(0, 1), 1);
    due.is("locks of picture 0", x.count(0, 3), 0);
    due.is("order", x.order(1), NONE);
    due.is("the next one is 1", Due.show(x, "t2;0R1"), 1);
    due.is("nothing of a refused one is in it", x.count(1, 1) * 10 + x.count(1, 3), 10);
  }

  static void eightAreThere(Due due) {
    StuckHands x = withEight();
    due.is("the eighth was taken", x.count(7, 0), 23);
    Due.feed(x, "t1;0R1");
    due.is("a ninth", x.picture(6), NONE);
    due.is("a ninth with a torn head", x.picture(1), NONE);
    due.is("a ninth of no bytes", x.picture(0), NONE);
    due.is("a ninth of too many bytes", x.picture(21), NONE);
    due.is("a ninth of a tick that is there", Due.show(withEight(), "t30"), NONE);
    due.is("pictures", x.count(NONE, 0), 8);
  }

  static void notSoMany(Due due) {
    StuckHands x = new StuckHands();
    due.is("picture of 1 of none", x.picture(1), NONE);
    Due.feed(x, "t1;0R1");
    for (int n : new int[] {21, 22, 40, 300, 301, -1, -20, Integer.MIN_VALUE, Integer.MAX_VALUE}) {
      due.is("picture of " + n + " of 20", x.picture(n), NONE);
    }
    due.is("pictures", x.count(NONE, 0), 0);
    StuckHands full = new StuckHands();
    Due.feed(full, longestText());
    due.is("picture of 301 of 300", full.picture(301), NONE);
    due.is("picture of 300 of 300", full.picture(300), 0);
    StuckHands exact = new StuckHands();
    Due.feed(exact, "t1;0R1;1R1;2R1;3R123");
    due.is("picture of 20 of 20", exact.picture(20), 0);
  }

  static void tapeStays(Due due) {
    StuckHands x = new StuckHands();
    Due.feed(x, "t1;0R1");
    x.picture(21);
    x.picture(-1);
    due.is("bytes of the tape", x.count(NONE, 1), 20);
    due.is("its bytes are as they were", x.picture(6), 0);
    due.is("its row", x.look(0, 0, 1), 1);
    StuckHands eight = withEight();
    Due.feed(eight, "t1;0R1");
    eight.picture(6);
    eight.picture(0);
    eight.picture(1);
    due.is("bytes of the tape though eight are there", eight.count(NONE, 1), 20);
    due.is("feed behind them", eight.feed(0, 0, 0, 0, 0), 40);
  }
}
