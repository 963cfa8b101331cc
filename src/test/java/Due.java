/** Counts the answers that are not the ones that are due, and feeds texts. */
final class Due {
  private static final int FEED_BYTES = 20;

  private int asked = 0;
  private int wrong = 0;
  private String subject = "";

  /** What the calls that follow are about; answers how many were asked before. */
  int about(String newSubject) {
    subject = newSubject;
    return asked;
  }

  int asked() {
    return asked;
  }

  void is(String call, long got, long want) {
    asked++;
    if (got != want) {
      wrong++;
      System.out.println(subject + call + " answered " + got + ", due is " + want);
    }
  }

  void is(String call, boolean got, boolean want) {
    is(call, got ? 1 : 0, want ? 1 : 0);
  }

  void end(String name) {
    System.out.println(name + ": " + (asked - wrong) + " answers as due, " + wrong + " not");
    if (wrong != 0 || asked == 0) System.exit(1);
  }

  /** Blanks fill the last feed up: they can't stand in a text, so a reader that reads them is found out. */
  static int feed(StuckHands x, String text) {
    StringBuilder filled = new StringBuilder(text);
    while (filled.length() % FEED_BYTES != 0) filled.append(' ');
    int answer = 0;
    for (int i = 0; i < filled.length(); i += FEED_BYTES) {
      answer = x.feed(word(filled, i), word(filled, i + 4), word(filled, i + 8), word(filled, i + 12), word(filled, i + 16));
    }
    return answer;
  }

  /** What picture answers for the text. */
  static int show(StuckHands x, String text) {
    feed(x, text);
    return x.picture(text.length());
  }

  /** A new object that has been shown the texts. */
  static StuckHands reader(String... texts) {
    StuckHands x = new StuckHands();
    for (String text : texts) show(x, text);
    return x;
  }

  static int word(CharSequence text, int i) {
    return text.charAt(i) << 24 | text.charAt(i + 1) << 16 | text.charAt(i + 2) << 8 | text.charAt(i + 3);
  }
}
