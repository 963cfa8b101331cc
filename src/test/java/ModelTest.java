import java.util.Random;

/** Runs of calls, made from fixed seeds, that the class and the model must answer alike. */
public final class ModelTest {
  private static final int RUNS = 3000;
  private static final int CALLS = 512;
  private static final int[] ODD = {-1, -2, 8, 16, 24, 25, 300, Integer.MIN_VALUE, Integer.MAX_VALUE};
  private static final String STRAY = "tRWSFhwc,;0129az \u00ff";

  private final Due due = new Due();
  private Random random;
  private StuckHands x;
  private Model model;
  private int run;
  private int calls;
  private String shown;

  public static void main(String[] args) {
    ModelTest test = new ModelTest();
    for (int run = 0; run < RUNS; run++) test.oneRun(run);
    test.due.end("ModelTest");
  }

  private void oneRun(int number) {
    run = number;
    random = new Random(run);
    x = new StuckHands();
    model = new Model();
    calls = 0;
    shown = "";
    int kind = run % 4;
    while (calls < CALLS - 20) {
      if (random.nextInt(kind == 0 ? 4 : 12) == 0) show(kind);
      else ask();
    }
  }

  private void is(String call, long got, long want) {
    calls++;
    due.is("run " + run + " after " + shown + ": " + call, got, want);
  }

  private int pick(int bound) {
    return random.nextInt(20) == 0 ? ODD[random.nextInt(ODD.length)] : random.nextInt(bound);
  }

  private void show(int kind) {
    String text = text(kind);
    shown = shown + "'" + text + "' ";
    StringBuilder filled = new StringBuilder(text);
    while (filled.length() % 20 != 0) filled.append(STRAY.charAt(random.nextInt(STRAY.length())));
    for (int i = 0; i < filled.length(); i += 20) {
      int[] w = new int[5];
      for (int k = 0; k < 5; k++) w[k] = Due.word(filled, i + 4 * k);
      is("feed", x.feed(w[0], w[1], w[2], w[3], w[4]), model.feed(w));
    }
    int n = random.nextInt(30) == 0 ? pick(301) : text.length();
    is("picture " + n, x.picture(n), model.picture(n));
  }

  /** Kind 0: short and often faulty. 1: many rows. 2: long rings and lines. 3: rows of calls. */
  private String text(int kind) {
    StringBuilder text = new StringBuilder("t").append(random.nextInt(kind == 0 ? 12 : 400));
    int rows = kind == 0 ? random.nextInt(5) : random.nextInt(25);
    int from = random.nextInt(24);
    boolean[] held = new boolean[16];
    for (int i = 0; i < rows && text.length() < 290; i++) {
      int t = kind == 0 && random.nextInt(9) == 0 ? random.nextInt(26) : (from + 7 * i) % 24;
      StringBuilder row = new StringBuilder(";").append(t);
      row.append("RWSFWSW".charAt(random.nextInt(kind == 3 ? 4 : 7)));
      row.append(random.nextInt(random.nextInt(3) == 0 ? 11000 : 3));
      addLocks(row, kind, held);
      addCalls(row, kind);
      if (text.length() + row.length() <= 300) text.append(row);
    }
    if (random.nextInt(kind == 0 ? 2 : 12) == 0) spoil(text);
    return text.length() > 300 ? text.substring(0, 300) : text.toString();
  }

  private void addLocks(StringBuilder row, int kind, boolean[] held) {
    boolean careful = kind != 0 || random.nextInt(4) != 0;
    int wanted = random.nextInt(3) == 0 ? 0 : 1 + random.nextInt(kind == 2 ? 1 : random.nextInt(8) == 0 ? 5 : 2);
    String between = "h";
    for (int i = 0; i < wanted; i++) {
      int lock = random.nextInt(kind == 0 ? 17 : 16);
      if (careful && (lock > 15 || held[lock])) continue;
      if (lock < 16) held[lock] = true;
      row.append(between).append(lock);
      between = ",";
    }
    boolean waits = row.indexOf("W") > 0 || row.indexOf("S") > 0;
    if (waits ? random.nextInt(40) != 0 || kind != 0 : random.nextInt(30) == 0 && kind == 0) {
      row.append("w").append(random.nextInt(kind == 0 ? 17 : 16));
    }
  }

  private void addCalls(StringBuilder row, int kind) {
    if (random.nextInt(kind == 3 ? 8 : 2) == 0 && kind != 0 || kind == 2) return;
    if (kind == 0 && random.nextInt(3) != 0) return;
    int letters = kind == 0 ? random.nextInt(14) : 1 + random.nextInt(kind == 3 ? 12 : 3);
    row.append("c");
    for (int i = 0; i < letters; i++) row.append((char) ('a' + random.nextInt(3)));
  }

  private void spoil(StringBuilder text) {
    int at = random.nextInt(text.length());
    char stray = STRAY.charAt(random.nextInt(STRAY.length()));
    switch (random.nextInt(4)) {
      case 0:
        text.setCharAt(at, stray);
        break;
      case 1:
        text.insert(at, stray);
        break;
      case 2:
        text.deleteCharAt(at);
        break;
      default:
        text.setLength(at);
    }
  }

  private void ask() {
    int p = pick(random.nextInt(4) == 0 ? 9 : Math.max(1, model.count(-1, 0)));
    int t = pick(25);
    int l = pick(17);
    switch (random.nextInt(20)) {
      case 0:
        is("torn " + p, x.torn(p), model.torn(p));
        break;
      case 1:
        int what = pick(24);
        is("look " + p + " " + t + " " + what, x.look(p, t, what), model.look(p, t, what));
        break;
      case 2:
        is("holder " + p + " " + l, x.holder(p, l), model.holder(p, l));
        break;
      case 3:
        is("rings " + p, x.rings(p), model.rings(p));
        break;
      case 4:
        int r = pick(4);
        int i = pick(7);
        is("ring " + p + " " + r + " " + i, x.ring(p, r, i), model.ring(p, r, i));
        break;
      case 5:
        is("foot " + p + " " + t, x.foot(p, t), model.foot(p, t));
        break;
      case 6:
        is("through " + p + " " + t, x.through(p, t), model.through(p, t));
        break;
      case 7:
        is("weight " + p + " " + l, x.weight(p, l), model.weight(p, l));
        break;
      case 8:
        is("guilty " + p, x.guilty(p), model.guilty(p));
        break;
      default:
        askMore(p, t);
    }
  }

  private void askMore(int p, int t) {
    int i = pick(9);
    int q = pick(9);
    int d = pick(random.nextBoolean() ? 26 : 6);
    int u = pick(24);
    int what = pick(4);
    switch (random.nextInt(10)) {
      case 0:
        is("stuck " + i, x.stuck(i), model.stuck(i));
        break;
      case 1:
        is("broken " + i, x.broken(i), model.broken(i));
        break;
      case 2:
        int m = pick(random.nextBoolean() ? 10002 : 30);
        int v = pick(random.nextBoolean() ? 102 : 4);
        is("meter " + m + " " + v, x.meter(m, v) ? 1 : 0, model.meter(m, v) ? 1 : 0);
        break;
      case 3:
        is("distance " + p + " " + t + " " + u, x.distance(p, t, u), model.distance(p, t, u));
        break;
      case 4:
        is("heaps " + p + " " + d, x.heaps(p, d), model.heaps(p, d));
        break;
      case 5:
        is("heap " + p + " " + d + " " + t, x.heap(p, d, t), model.heap(p, d, t));
        break;
      case 6:
        is("order " + i, x.order(i), model.order(i));
        break;
      case 7:
        is("count " + p + " " + what, x.count(p, what), model.count(p, what));
        break;
      case 8:
        is("count NONE " + what, x.count(-1, what), model.count(-1, what));
        break;
      default:
        is("work " + t + " " + p + " " + q + " " + what, x.work(t, p, q, what), model.work(t, p, q, what));
    }
  }
}
