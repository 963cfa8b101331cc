/** Numbers that name nothing; among them those that a shift by 32, a cast to a byte or a sum would take for another. */
final class Odd {
  static final int[] PICTURES = {-2, 8, 9, 16, 256, -256, Integer.MIN_VALUE, Integer.MAX_VALUE};
  static final int[] THREADS = {-1, -2, 24, 25, 32, 64, 256, -32, Integer.MIN_VALUE, Integer.MAX_VALUE};
  static final int[] LOCKS = {-1, -2, 16, 17, 32, 64, 256, -32, Integer.MIN_VALUE, Integer.MAX_VALUE};
  static final int[] PLACES = {-1, -2, 24, 32, 256, Integer.MIN_VALUE, Integer.MAX_VALUE};

  private Odd() {
  }
}
