import java.util.ArrayList;
import java.util.Arrays;
import java.util.List;
import java.util.Set;
import java.util.TreeSet;

/**
 * "LEAST CODE: .. none, if five are not enough": by trying all, that no TABLE is so, wherefore the NONE of least()
 * for want of a CODE can be seen by no call; and of TABLES with but one GOOD CODE of five, that it is the one told.
 *
 * What is tried: six STATES and four COLUMNS, nothing OPEN. A TABLE with fewer STATES or COLUMNS, or with OPEN
 * ENTRIES, has no PARTING that one of these has not, too, so a CODE that is GOOD for that one is so for it. Of
 * COLUMNS those are left out whose GOOD CODES are all those of another one and more, and the first COLUMN is one
 * of each kind, since STATES and COLUMNS may be taken in any order.
 */
public final class FiveSignalsTest {
  private static final int STATES = 6, SIGNALS = 32;
  private static int wrong = 0;
  private static final List<int[]> columns = new ArrayList<>();
  private static final List<long[]> goodFor = new ArrayList<>();
  private static final Set<String> hardest = new TreeSet<>();
  private static int[] codes;

  public static void main(String[] args) {
    codes = codesThatTellAllStatesApart();
    allColumns();
    leaveOutEasyColumns();
    Set<String> kinds = new TreeSet<>();
    for (int first = 0; first < columns.size(); first++) if (kinds.add(kind(columns.get(first)))) tryAllBehind(first);
    if (hardest.isEmpty()) { wrong++; System.out.println("no TABLE has but one GOOD CODE"); }
    for (String told : hardest) isTold(told.substring(0, told.indexOf(' ')), Integer.parseInt(told.substring(told.indexOf(' ') + 1)));
    System.out.println(wrong == 0 ? "five are always enough; " + hardest.size() + " hardest tables hold" : wrong + " are wrong");
    if (wrong != 0) System.exit(1);
  }

  /** Bits of SIGNALS (a SIGNAL is twice the number of its bit) that KEEP a PARTING. */
  private static int keepers(int one, int other) {
    int found = 0;
    for (int half = 0; half < SIGNALS; half++) {
      int a = 2 * half & one, b = 2 * half & other;
      if (a == 0 && b == other || b == 0 && a == one) found |= 1 << half;
    }
    return found;
  }

  private static int[] codesThatTellAllStatesApart() {
    List<Integer> found = new ArrayList<>();
    for (long code = 31; code < 1L << SIGNALS; code = nextOfAsMany(code)) {
      boolean apart = (code & 1) == 0;
      for (int s = 0; s < STATES && apart; s++)
        for (int t = s + 1; t < STATES && apart; t++) apart = ((int) code & keepers(1 << s, 1 << t)) != 0;
      if (apart) found.add((int) code);
    }
    return found.stream().mapToInt(i -> i).toArray();
  }

  private static long nextOfAsMany(long bits) {
    long least = bits & -bits, up = bits + least;
    return up | ((bits ^ up) / least) >> 2;
  }

  private static void allColumns() {
    int all = (int) Math.pow(STATES, STATES);
    for (int number = 0; number < all; number++) {
      int[] next = new int[STATES];
      for (int s = 0, rest = number; s < STATES; s++, rest /= STATES) next[s] = rest % STATES;
      boolean normal = true;
      for (int s = 0; s < STATES; s++) normal &= next[next[s]] == next[s];
      if (normal) { columns.add(next); goodFor.add(goodCodes(next)); }
    }
  }

  private static long[] goodCodes(int[] next) {
    List<Integer> asked = new ArrayList<>();
    for (int s = 0; s < STATES; s++) for (int t = s + 1; t < STATES; t++)
      if (next[s] != next[t]) asked.add(keepers(1 << s | 1 << next[s], 1 << t | 1 << next[t]));
    int[] masks = asked.stream().mapToInt(i -> i).toArray();
    long[] good = new long[(codes.length + 63) / 64];
    for (int i = 0; i < codes.length; i++) {
      boolean is = true;
      for (int m = 0; m < masks.length && is; m++) is = (codes[i] & masks[m]) != 0;
      if (is) good[i >> 6] |= 1L << (i & 63);
    }
    return good;
  }

  private static void leaveOutEasyColumns() {
    for (int i = columns.size() - 1; i >= 0; i--) {
      boolean easy = false;
      for (int j = 0; j < columns.size() && !easy; j++) easy = i != j && isInside(goodFor.get(j), goodFor.get(i));
      if (easy) { columns.remove(i); goodFor.remove(i); }
    }
  }

  private static boolean isInside(long[] few, long[] many) {
    for (int i = 0; i < few.length; i++) if ((few[i] & ~many[i]) != 0) return false;
    return true;
  }

  private static String kind(int[] next) {
    int[] sizes = new int[STATES];
    for (int to : next) sizes[to]++;
    Arrays.sort(sizes);
    return Arrays.toString(sizes);
  }

  private static void tryAllBehind(int first) {
    for (int b = 0; b < columns.size(); b++) {
      long[] two = both(goodFor.get(first), goodFor.get(b));
      for (int c = b; c < columns.size(); c++) {
        long[] three = both(two, goodFor.get(c));
        int[] places = placesOfAny(three);
        for (int d = c; d < columns.size(); d++) look(three, places, first, b, c, d);
      }
    }
  }

  private static long[] both(long[] one, long[] other) {
    long[] all = new long[one.length];
    for (int i = 0; i < all.length; i++) all[i] = one[i] & other[i];
    return all;
  }

  private static int[] placesOfAny(long[] bits) {
    int[] places = new int[bits.length];
    int size = 0;
    for (int i = 0; i < bits.length; i++) if (bits[i] != 0) places[size++] = i;
    return Arrays.copyOf(places, size);
  }

  /** Whether a CODE is GOOD for all four COLUMNS, and whether it is the only one. */
  private static void look(long[] three, int[] places, int a, int b, int c, int d) {
    long[] last = goodFor.get(d);
    int found = 0, only = 0;
    for (int i = 0; i < places.length && found < 2; i++) {
      long left = three[places[i]] & last[places[i]];
      if (left == 0) continue;
      found += Long.bitCount(left);
      only = codes[64 * places[i] + Long.numberOfTrailingZeros(left)];
    }
    if (found == 0) { wrong++; System.out.println("five are not enough for " + text(a, b, c, d)); }
    if (found == 1 && hardest.size() < 200) hardest.add(text(a, b, c, d) + " " + only);
  }

  private static String text(int... all) {
    StringBuilder text = new StringBuilder();
    for (int s = 0; s < STATES; s++) {
      if (s > 0) text.append(';');
      for (int column : all) text.append((char) ('a' + columns.get(column)[s]));
    }
    return text.toString();
  }

  private static void isTold(String text, int code) {
    FlowCodes x = new FlowCodes();
    for (char sign : text.toCharArray()) x.letter(sign);
    boolean holds = x.table() == STATES && x.least(-1) == 5 && x.coded(0) == 5 && x.coded(1) == 1;
    for (int half = 0, signal = 0; half < SIGNALS; half++) if ((code >> half & 1) == 1) holds &= x.least(signal++) == 2 * half;
    if (!holds) { wrong++; System.out.println("the only GOOD CODE of " + text + " is not told"); }
  }
}
