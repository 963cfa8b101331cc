import java.util.ArrayList;
import java.util.Collections;
import java.util.HashSet;
import java.util.LinkedHashSet;
import java.util.List;
import java.util.Map;
import java.util.Set;
import java.util.TreeMap;
import java.util.TreeSet;
import java.util.regex.Matcher;
import java.util.regex.Pattern;

/** A second reader of the same pictures, slow and written in another way, for comparison. */
final class Model {
  private static final int NONE = -1;
  private static final String HELD = "(?:h[0-9]{1,2}(?:,[0-9]{1,2}){0,3})?";
  private static final String CALLS = "(?:c[a-z]{1,12})?";
  private static final Pattern HEAD = Pattern.compile("t([0-9]{1,4})");
  private static final Pattern ROW = Pattern.compile("[0-9]{1,2}(?:[RF][0-9]{1,4}" + HELD + CALLS
    + "|[WS][0-9]{1,4}" + HELD + "w[0-9]{1,2}" + CALLS + ")");
  private static final Pattern PARTS = Pattern.compile("([0-9]+)([RWSF])([0-9]+)(?:h([0-9,]+))?(?:w([0-9]+))?(?:c([a-z]+))?");
  private static final Pattern NUMBER = Pattern.compile("[0-9]+");

  private static final class Hand {
    int state;
    int counter;
    TreeSet<Integer> held = new TreeSet<>();
    int at = NONE;
    String calls = "";

    String all() {
      return state + " " + counter + " " + held + " " + at + " " + calls;
    }
  }

  private static final class Shot {
    int tick;
    int torn = NONE;
    TreeMap<Integer, Hand> hands = new TreeMap<>();

    int holder(int lock) {
      for (Map.Entry<Integer, Hand> each : hands.entrySet()) if (each.getValue().held.contains(lock)) return each.getKey();
      return NONE;
    }

    List<Integer> chain(int t) {
      Set<Integer> chain = new LinkedHashSet<>();
      while (hands.containsKey(t) && chain.add(t)) t = holder(hands.get(t).at);
      return new ArrayList<>(chain);
    }

    boolean goesOn(int t) {
      return holder(hands.get(t).at) != NONE;
    }

    List<List<Integer>> rings() {
      List<List<Integer>> rings = new ArrayList<>();
      for (int t : hands.keySet()) {
        List<Integer> chain = chain(t);
        int last = chain.get(chain.size() - 1);
        if (holder(hands.get(last).at) == t && Collections.min(chain) == t) rings.add(chain);
      }
      return rings;
    }

    Map<Integer, Integer> heaps(int d) {
      Map<Integer, Integer> lowest = new TreeMap<>();
      for (int t : hands.keySet()) lowest.put(t, t);
      boolean changed = true;
      while (changed) {
        changed = false;
        for (int t : hands.keySet()) {
          for (int u : hands.keySet()) {
            if (lowest.get(t) < lowest.get(u) && apart(hands.get(t).calls, hands.get(u).calls) <= d) {
              lowest.put(u, lowest.get(t));
              changed = true;
            }
          }
        }
      }
      return lowest;
    }
  }

  private final List<Shot> shots = new ArrayList<>();
  private String tape = "";
  private int m = 10000;
  private int v = 10;

  int feed(int... words) {
    if (tape.length() + 20 > 300) return NONE;
    StringBuilder fed = new StringBuilder(tape);
    for (int word : words) for (int i = 3; i >= 0; i--) fed.append((char) (word >>> 8 * i & 255));
    tape = fed.toString();
    return tape.length();
  }

  int picture(int n) {
    if (shots.size() == 8 || n < 0 || n > tape.length()) return NONE;
    String text = tape.substring(0, n);
    tape = "";
    String[] parts = text.split(";", -1);
    Matcher head = HEAD.matcher(parts[0]);
    if (!head.matches()) return -2;
    Shot shot = new Shot();
    shot.tick = Integer.parseInt(head.group(1));
    for (Shot other : shots) if (other.tick == shot.tick) return -2;
    int start = parts[0].length() + 1;
    for (int i = 1; i < parts.length && shot.torn == NONE; i++) {
      int torn = tornInRow(parts[i], shot);
      if (torn != NONE) shot.torn = start + torn;
      else keep(parts[i], shot);
      start += parts[i].length() + 1;
    }
    shots.add(shot);
    return shots.size() - 1;
  }

  /** The first place of a wrong form, or of a number that is whole there and wrong, if that comes before. */
  private static int tornInRow(String row, Shot shot) {
    int form = 0;
    while (form < row.length() && canBegin(row.substring(0, form + 1))) form++;
    Set<Integer> held = new HashSet<>();
    Matcher numbers = NUMBER.matcher(row);
    while (numbers.find() && numbers.start() < form) {
      int at = numbers.start();
      char ahead = at == 0 ? '^' : row.charAt(at - 1);
      if (numbers.group().length() > 2 || "^h,w".indexOf(ahead) < 0) continue;
      int number = Integer.parseInt(numbers.group());
      boolean isHeld = ahead == 'h' || ahead == ',';
      if (number > (ahead == '^' ? 23 : 15)) return at;
      if (ahead == '^' && shot.hands.containsKey(number)) return at;
      if (isHeld && (shot.holder(number) != NONE || !held.add(number))) return at;
    }
    return form == row.length() && ROW.matcher(row).matches() ? NONE : form;
  }

  private static boolean canBegin(String start) {
    Matcher row = ROW.matcher(start);
    return row.matches() || row.hitEnd();
  }

  private static void keep(String row, Shot shot) {
    Matcher parts = PARTS.matcher(row);
    if (!parts.matches()) throw new IllegalStateException(row);
    Hand hand = new Hand();
    hand.state = "RWSF".indexOf(parts.group(2));
    hand.counter = Integer.parseInt(parts.group(3));
    if (parts.group(4) != null) for (String lock : parts.group(4).split(",")) hand.held.add(Integer.parseInt(lock));
    if (parts.group(5) != null) hand.at = Integer.parseInt(parts.group(5));
    if (parts.group(6) != null) hand.calls = parts.group(6);
    shot.hands.put(Integer.parseInt(parts.group(1)), hand);
  }

  private Shot shot(int p) {
    return p >= 0 && p < shots.size() ? shots.get(p) : null;
  }

  private Hand hand(int p, int t) {
    return shot(p) == null ? null : shot(p).hands.get(t);
  }

  int torn(int p) {
    return shot(p) == null ? NONE : shot(p).torn;
  }

  int look(int p, int t, int what) {
    Hand hand = hand(p, t);
    if (hand == null) return NONE;
    if (what == 0) return hand.state;
    if (what == 1) return hand.counter;
    if (what == 2) return hand.held.stream().mapToInt(lock -> 1 << lock).sum();
    if (what == 3) return hand.at;
    if (what == 4) return hand.calls.length();
    long i = what - 10L;
    return i >= 0 && i < hand.calls.length() ? hand.calls.charAt((int) i) : NONE;
  }

  int holder(int p, int l) {
    return shot(p) == null ? NONE : shot(p).holder(l);
  }

  int rings(int p) {
    return shot(p) == null ? NONE : shot(p).rings().size();
  }

  int ring(int p, int r, int i) {
    if (shot(p) == null) return NONE;
    List<List<Integer>> rings = shot(p).rings();
    if (r < 0 || r >= rings.size() || i < 0 || i >= rings.get(r).size()) return NONE;
    return rings.get(r).get(i);
  }

  int foot(int p, int t) {
    if (hand(p, t) == null || hand(p, t).at == NONE) return NONE;
    List<Integer> chain = shot(p).chain(t);
    int last = chain.get(chain.size() - 1);
    return shot(p).goesOn(last) ? NONE : last;
  }

  int through(int p, int t) {
    if (hand(p, t) == null) return NONE;
    int found = 0;
    for (int u : shot(p).hands.keySet()) if (u != t && shot(p).chain(u).contains(t)) found++;
    return found;
  }

  int weight(int p, int l) {
    if (shot(p) == null || l < 0 || l > 15) return NONE;
    int found = 0;
    for (int u : shot(p).hands.keySet()) {
      if (shot(p).chain(u).stream().anyMatch(each -> hand(p, each).at == l)) found++;
    }
    return found;
  }

  int guilty(int p) {
    int guilty = NONE;
    for (int l = 15; l >= 0; l--) if (weight(p, l) > 0 && weight(p, l) >= weight(p, guilty)) guilty = l;
    return guilty;
  }

  int stuck(int i) {
    List<Integer> stuck = new ArrayList<>();
    for (int t = 0; t < 24; t++) {
      List<String> all = new ArrayList<>();
      for (int p = 0; p < shots.size(); p++) if (hand(p, t) != null) all.add(hand(p, t).all());
      if (all.size() > 1 && new HashSet<>(all).size() == 1) stuck.add(t);
    }
    return i >= 0 && i < stuck.size() ? stuck.get(i) : NONE;
  }

  int broken(int i) {
    boolean[][] ahead = new boolean[16][16];
    for (Shot shot : shots) {
      for (Hand hand : shot.hands.values()) for (int a : hand.held) if (hand.at != NONE && hand.at != a) ahead[a][hand.at] = true;
    }
    for (int size = 2; size <= 16; size++) {
      for (int first = 0; first < 16; first++) {
        List<Integer> ring = new ArrayList<>(List.of(first));
        if (goRound(ahead, ring, size)) return i >= 0 && i < size ? ring.get(i) : NONE;
      }
    }
    return NONE;
  }

  /** The first ring of the size that begins so, in the order of locks; none of them below the first. */
  private static boolean goRound(boolean[][] ahead, List<Integer> ring, int size) {
    int last = ring.get(ring.size() - 1);
    if (ring.size() == size) return ahead[last][ring.get(0)];
    for (int next = ring.get(0) + 1; next < 16; next++) {
      if (ahead[last][next] && !ring.contains(next)) {
        ring.add(next);
        if (goRound(ahead, ring, size)) return true;
        ring.remove(ring.size() - 1);
      }
    }
    return false;
  }

  boolean meter(int newM, int newV) {
    if (newM < 2 || newM > 10000 || newV < 0 || newV > 100) return false;
    m = newM;
    v = newV;
    return true;
  }

  int work(int t, int p, int q, int what) {
    if (hand(p, t) == null || hand(q, t) == null || p == q || what < 0 || what > 2) return NONE;
    if (shot(p).tick > shot(q).tick) return work(t, q, p, what);
    int least = NONE;
    int greatest = NONE;
    int numbers = 0;
    int rest = hand(p, t).counter % m;
    int want = hand(q, t).counter % m;
    for (int done = 0; done <= v * (shot(q).tick - shot(p).tick); done++) {
      if (rest == want) {
        if (numbers == 0) least = done;
        greatest = done;
        numbers++;
      }
      rest = rest + 1 == m ? 0 : rest + 1;
    }
    return what == 0 ? least : what == 1 ? greatest : numbers;
  }

  /** By a table of all pairs of ends, filled from the back. */
  private static int apart(String a, String b) {
    int[][] cost = new int[a.length() + 1][b.length() + 1];
    for (int i = a.length(); i >= 0; i--) {
      for (int j = b.length(); j >= 0; j--) {
        if (i == a.length() || j == b.length()) cost[i][j] = a.length() - i + b.length() - j;
        else if (a.charAt(i) == b.charAt(j)) cost[i][j] = cost[i + 1][j + 1];
        else cost[i][j] = 1 + Math.min(cost[i + 1][j + 1], Math.min(cost[i + 1][j], cost[i][j + 1]));
      }
    }
    return cost[0][0];
  }

  int distance(int p, int t, int u) {
    return hand(p, t) == null || hand(p, u) == null ? NONE : apart(hand(p, t).calls, hand(p, u).calls);
  }

  int heaps(int p, int d) {
    return shot(p) == null || d < 0 || d > 24 ? NONE : new HashSet<>(shot(p).heaps(d).values()).size();
  }

  int heap(int p, int d, int t) {
    return hand(p, t) == null || d < 0 || d > 24 ? NONE : shot(p).heaps(d).get(t);
  }

  int order(int i) {
    List<Shot> sorted = new ArrayList<>(shots);
    sorted.sort((a, b) -> a.tick - b.tick);
    return i >= 0 && i < sorted.size() ? shots.indexOf(sorted.get(i)) : NONE;
  }

  int count(int p, int what) {
    if (what < 0 || what > 3) return NONE;
    if (p == NONE) return new int[] {shots.size(), tape.length(), m, v}[what];
    if (shot(p) == null) return NONE;
    int waiting = 0;
    int held = 0;
    for (Hand hand : shot(p).hands.values()) {
      if (hand.at != NONE) waiting++;
      held += hand.held.size();
    }
    return new int[] {shot(p).tick, shot(p).hands.size(), waiting, held}[what];
  }
}
