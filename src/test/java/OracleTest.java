import java.util.ArrayList;
import java.util.HashSet;
import java.util.List;
import java.util.Set;
import java.util.TreeSet;

/** Long runs of calls on FlowCodes beside a slow model that follows the document word by word. */
public final class OracleTest {
  private static final int RUNS = 700, CALLS = 512;
  private static int wrong = 0;

  public static void main(String[] args) {
    Dice dice = new Dice(20261117L);
    int[] reached = new int[6];
    for (int run = 0; run < RUNS && wrong < 20; run++) oneRun(run, dice, reached);
    String[] names = {"tables that are not NORMAL", "tables of six STATES", "LEAST CODE of five", "sums with FLICKERS",
        "codes that are not GOOD", "WILD moves"};
    for (int i = 0; i < names.length; i++) {
      if (reached[i] == 0) { wrong++; System.out.println("no run reached: " + names[i]); }
    }
    System.out.println(wrong == 0 ? "all answers are as the model's" : wrong + " answers are not as the model's");
    if (wrong != 0) System.exit(1);
  }

  private static void due(int run, List<String> calls, String call, long got, long want) {
    calls.add(call);
    if (got == want) return;
    wrong++;
    System.out.println("run " + run + ": " + call + " answered " + got + ", due is " + want
        + " behind " + calls.subList(Math.max(0, calls.size() - 60), calls.size()));
  }

  private static void oneRun(int run, Dice dice, int[] reached) {
    FlowCodes x = new FlowCodes();
    Model m = new Model();
    List<String> calls = new ArrayList<>();
    boolean wild = run % 3 == 0;
    while (calls.size() < CALLS && wrong < 20) {
      int kind = dice.below(100);
      if (kind < 4 && calls.size() < CALLS - 45) {
        String text = dice.below(5) == 0 ? anyText(dice) : tableText(dice, dice.below(4) != 0);
        if (dice.below(3) != 0) due(run, calls, "blank()", x.blank(), m.blank());
        for (char sign : text.toCharArray()) due(run, calls, "letter(" + (int) sign + ")", x.letter(sign), m.letter(sign));
        due(run, calls, "fault()", x.fault(), m.fault());
        due(run, calls, "table()", x.table(), m.table());
      } else {
        oneCall(run, calls, x, m, dice, kind, wild);
      }
      note(m, reached);
    }
  }

  private static void note(Model m, int[] reached) {
    if (m.rows.isEmpty()) return;
    if (!m.normal()) { reached[0]++; return; }
    if (m.rows.size() == 6) reached[1]++;
    if (m.leastCode != null && m.leastCode.size() == 5) reached[2]++;
    if (m.unkept(m.code) > 0) { reached[4]++; reached[5] += m.wild().isEmpty() ? 0 : 1; return; }
    for (int s = 0; s < m.code.size(); s++) if (m.sums[s] != null && m.sums[s].flickers > 0) reached[3]++;
  }

  private static void oneCall(int run, List<String> calls, FlowCodes x, Model m, Dice dice, int kind, boolean wild) {
    int a = dice.about(6), b = dice.about(7), w = dice.about(6);
    if (kind < 8) { int c = dice.below(3) == 0 ? dice.below(140) : "abcdef;-".charAt(dice.below(8));
      due(run, calls, "letter(" + c + ")", x.letter(c), m.letter(c));
    } else if (kind < 9) due(run, calls, "blank()", x.blank(), m.blank());
    else if (kind < 11) due(run, calls, "fault()", x.fault(), m.fault());
    else if (kind < 12) due(run, calls, "table()", x.table(), m.table());
    else if (kind < 16) due(run, calls, "entry(" + a + "," + b + ")", x.entry(a, b), m.entry(a, b));
    else if (kind < 21) due(run, calls, "about(" + w + ")", x.about(w), m.about(w));
    else if (kind < 28) { int p = dice.about(24), q = dice.about(3); due(run, calls, "parting(" + p + "," + q + ")", x.parting(p, q), m.parting(p, q)); }
    else if (kind < 33) due(run, calls, "least(" + w + ")", x.least(w), m.least(w));
    else if (kind < 37) { int bits = dice.about(64); due(run, calls, "put(" + bits + ")", x.put(bits), m.put(bits)); }
    else if (kind < 38) { if (wild) due(run, calls, "clear()", x.clear(), m.clear()); }
    else if (kind < 42) due(run, calls, "code(" + a + ")", x.code(a), m.code(a));
    else if (kind < 48) due(run, calls, "coded(" + w + ")", x.coded(w), m.coded(w));
    else if (kind < 55) { int p = dice.about(128); due(run, calls, "wanted(" + a + "," + p + ")", x.wanted(a, p), m.wanted(a, p)); }
    else if (kind < 64) due(run, calls, "logic(" + a + "," + w + ")", x.logic(a, w), m.logic(a, w));
    else if (kind < 72) { int q = dice.about(2); due(run, calls, "product(" + a + "," + b + "," + q + ")", x.product(a, b, q), m.product(a, b, q)); }
    else if (kind < 80) { int p = dice.about(20), q = dice.about(2); due(run, calls, "wide(" + a + "," + p + "," + q + ")", x.wide(a, p, q), m.wide(a, p, q)); }
    else if (kind < 83) due(run, calls, "walk(" + a + ")", x.walk(a), m.walk(a));
    else if (kind < 91) { int c = dice.about(4); due(run, calls, "turn(" + c + ")", x.turn(c), m.turn(c)); }
    else if (kind < 98) { int q = dice.about(7); due(run, calls, "count(" + q + ")", x.count(q), m.count(q)); }
    else due(run, calls, "digest()", x.digest(), m.digest());
  }

  private static String anyText(Dice dice) {
    StringBuilder text = new StringBuilder();
    int length = dice.below(44);
    for (int i = 0; i < length; i++) text.append("abcdefabcdef;;-g ".charAt(dice.below(17)));
    return text.toString();
  }

  private static String tableText(Dice dice, boolean normal) {
    int n = 2 + dice.below(5), c = 2 + dice.below(3), open = 2 + dice.below(10);
    char[][] entries = new char[n][c];
    for (int column = 0; column < c; column++) {
      boolean[] stable = new boolean[n];
      int any = dice.below(n);
      for (int s = 0; s < n; s++) stable[s] = s == any || dice.below(2) == 0;
      for (int s = 0; s < n; s++) {
        int to = stable[s] ? s : dice.below(n);
        for (int i = 0; i < 50 && normal && !stable[to]; i++) to = dice.below(n);
        if (normal && !stable[to]) to = any;
        entries[s][column] = !stable[s] && dice.below(open) == 0 ? '-' : (char) ('a' + to);
      }
    }
    StringBuilder text = new StringBuilder();
    for (int s = 0; s < n; s++) { if (s > 0) text.append(';'); text.append(entries[s]); }
    return text.toString();
  }

  /** A fixed row of numbers. */
  private static final class Dice {
    private long seed;
    Dice(long seed) { this.seed = seed; }
    int below(int bound) {
      seed = seed * 6364136223846793005L + 1442695040888963407L;
      return (int) Math.floorMod(seed >>> 33, (long) bound);
    }
    /** Mostly 0 to most, at times a little or far outside. */
    int about(int most) {
      int kind = below(40);
      if (kind == 0) return -1;
      if (kind == 1) return -2 - below(3);
      if (kind == 2) return most + below(4);
      if (kind == 3) return new int[] {Integer.MIN_VALUE, Integer.MAX_VALUE, 1 << 30, -65536}[below(4)];
      return below(2) == 0 ? below(Math.max(1, most / 2)) : below(most);
    }
  }

  private record Move(int from, int column, int to) { }

  private record Product(int asked, int ones) {
    boolean has(int point) { return (point & asked) == ones; }
  }

  private record Sum(List<Product> wide, List<Product> all, int flickers) { }

  private record Pair(int lesser, int greater) {
    boolean inside(Pair other) {
      return (lesser & other.lesser) == lesser && (greater & other.greater) == greater
          || (lesser & other.greater) == lesser && (greater & other.lesser) == greater;
    }
    boolean keptBy(int signal) {
      return (signal & lesser) == 0 && (signal & greater) == greater || (signal & greater) == 0 && (signal & lesser) == lesser;
    }
  }

  /** The document, as plainly as can be: all is counted anew at each call, by trying everything. */
  private static final class Model {
    static final int NONE = -1, UNKNOWN = -1001, OUTSIDE = -1002, STATE = -1003, FULL = -1004;
    String page = "";
    List<String> rows = new ArrayList<>();
    List<Integer> leastCode = null;
    List<Integer> code = new ArrayList<>();
    int at = NONE, turns = 0, changes = 0, read = 0;
    List<Pair> partings = new ArrayList<>();
    Sum[] sums = new Sum[5];

    int letter(int sign) {
      if (sign < 32 || sign > 126) return OUTSIDE;
      if (page.length() >= 40) return FULL;
      page += (char) sign;
      return page.length();
    }

    int blank() { int had = page.length(); page = ""; return had; }

    /** Whether some TABLE begins with the text: by patterns, one for each number of ENTRIES. */
    static boolean begins(String text) {
      for (int width = 2; width <= 4; width++) {
        String row = "[a-f-]{" + width + "}";
        if (text.matches("(" + row + ";){0,5}[a-f-]{0," + width + "}")) return true;
      }
      return false;
    }

    int fault() {
      for (int i = 0; i < page.length(); i++) if (!begins(page.substring(0, i + 1))) return i;
      return page.length();
    }

    int table() {
      boolean fits = false;
      for (int width = 2; width <= 4; width++) fits |= page.matches("[a-f-]{" + width + "}(;[a-f-]{" + width + "}){1,5}");
      if (!fits) return STATE;
      String[] parts = page.split(";");
      for (char sign : page.toCharArray()) if (sign >= 'a' && sign - 'a' >= parts.length) return STATE;
      rows = List.of(parts);
      page = "";
      at = NONE; turns = 0; changes = 0; read++;
      partings = normal() ? allPartings() : new ArrayList<>();
      leastCode = normal() ? searchLeast() : null;
      code = leastCode == null ? new ArrayList<>() : new ArrayList<>(leastCode);
      sums = new Sum[5];
      return rows.size();
    }

    int columns() { return rows.isEmpty() ? 0 : rows.get(0).length(); }
    boolean isState(int s) { return s >= 0 && s < rows.size(); }

    int entry(int s, int c) {
      if (!isState(s) || c < 0 || c >= columns()) return UNKNOWN;
      char sign = rows.get(s).charAt(c);
      return sign == '-' ? NONE : sign - 'a';
    }

    List<Move> moves() {
      List<Move> all = new ArrayList<>();
      for (int s = 0; s < rows.size(); s++)
        for (int c = 0; c < columns(); c++) if (entry(s, c) != NONE) all.add(new Move(s, c, entry(s, c)));
      return all;
    }

    int amiss() {
      for (Move move : moves()) if (entry(move.to, move.column) != move.to) return 4 * move.from + move.column;
      return NONE;
    }

    boolean normal() { return !rows.isEmpty() && amiss() == NONE; }

    int about(int what) {
      if (what < 0 || what > 4) return OUTSIDE;
      if (rows.isEmpty()) return STATE;
      if (what == 0) return normal() ? 1 : 0;
      if (what == 1) return amiss();
      if (what == 2) return moves().size();
      if (what == 3) return (int) moves().stream().filter(m -> m.from == m.to).count();
      return normal() ? partings.size() : NONE;
    }

    List<Pair> allPartings() {
      Set<Pair> found = new HashSet<>();
      for (int i = 0; i < rows.size(); i++) for (int j = i + 1; j < rows.size(); j++) found.add(new Pair(1 << i, 1 << j));
      for (Move one : moves()) for (Move other : moves()) {
        if (one.column != other.column || one.to == other.to) continue;
        int a = 1 << one.from | 1 << one.to, b = 1 << other.from | 1 << other.to;
        found.add(new Pair(Math.min(a, b), Math.max(a, b)));
      }
      List<Pair> left = new ArrayList<>();
      for (int a = 0; a < 64; a++) for (int b = 0; b < 64; b++) {
        Pair pair = new Pair(a, b);
        if (!found.contains(pair)) continue;
        boolean out = false;
        for (Pair other : found) out |= !other.equals(pair) && pair.inside(other);
        if (!out) left.add(pair);
      }
      return left;
    }

    /** All rows of rising SIGNALS, the fewest first, each lot in order. */
    List<Integer> searchLeast() {
      List<List<Integer>> lot = new ArrayList<>();
      lot.add(new ArrayList<>());
      for (int size = 1; size <= 5; size++) {
        List<List<Integer>> next = new ArrayList<>();
        for (List<Integer> head : lot) {
          int from = head.isEmpty() ? 0 : head.get(head.size() - 1) + 2;
          for (int signal = from; signal < 1 << rows.size(); signal += 2) {
            List<Integer> longer = new ArrayList<>(head);
            longer.add(signal);
            if (unkept(longer) == 0) return longer;
            next.add(longer);
          }
        }
        lot = next;
      }
      return null;
    }

    int unkept(List<Integer> signals) {
      int left = 0;
      for (Pair pair : partings) { boolean kept = false; for (int signal : signals) kept |= pair.keptBy(signal); if (!kept) left++; }
      return left;
    }

    int parting(int parting, int what) {
      if (what < 0 || what > 2) return OUTSIDE;
      if (!normal()) return STATE;
      if (parting < 0 || parting >= partings.size()) return UNKNOWN;
      Pair pair = partings.get(parting);
      if (what == 0) return pair.lesser;
      if (what == 1) return pair.greater;
      return (int) code.stream().filter(pair::keptBy).count();
    }

    int least(int signal) {
      if (signal < -1 || signal > 4) return OUTSIDE;
      if (!normal()) return STATE;
      if (leastCode == null) return NONE;
      if (signal == NONE) return leastCode.size();
      return signal < leastCode.size() ? leastCode.get(signal) : NONE;
    }

    int put(int bits) {
      if (!normal()) return STATE;
      if (bits < 0 || bits >= 1 << rows.size()) return OUTSIDE;
      if (code.size() == 5) return FULL;
      code.add(bits);
      sums = new Sum[5];
      return code.size();
    }

    int clear() {
      if (!normal()) return STATE;
      int had = code.size();
      code = new ArrayList<>();
      sums = new Sum[5];
      return had;
    }

    int codeOf(int s) {
      int bits = 0;
      for (int i = 0; i < code.size(); i++) if ((code.get(i) >> s & 1) == 1) bits += 1 << i;
      return bits;
    }

    int code(int s) {
      if (!isState(s)) return UNKNOWN;
      return normal() ? codeOf(s) : STATE;
    }

    Set<Integer> way(Move move) {
      Set<Integer> way = new TreeSet<>();
      int from = codeOf(move.from), to = codeOf(move.to);
      for (int one = 0; one < 1 << code.size(); one++) {
        boolean on = true;
        for (int i = 0; i < code.size(); i++) {
          int a = from >> i & 1, b = to >> i & 1;
          if (a == b && (one >> i & 1) != a) on = false;
        }
        if (on) way.add(one);
      }
      return way;
    }

    List<Move> wild() {
      List<Move> found = new ArrayList<>();
      for (Move one : moves()) {
        boolean meets = false;
        for (Move other : moves()) {
          if (other.column != one.column || other.to == one.to) continue;
          Set<Integer> both = way(one);
          both.retainAll(way(other));
          meets |= !both.isEmpty();
        }
        if (meets) found.add(one);
      }
      return found;
    }

    int coded(int what) {
      if (what < 0 || what > 5) return OUTSIDE;
      if (!normal()) return STATE;
      if (what == 0) return code.size();
      if (what == 1) return good() ? 1 : 0;
      if (what == 2) return unkept(code);
      if (what == 3) return wild().size();
      if (what == 4) return wild().isEmpty() ? NONE : 4 * wild().get(0).from + wild().get(0).column;
      return moves().stream().mapToInt(m -> Integer.bitCount(codeOf(m.from) ^ codeOf(m.to))).max().orElse(0);
    }

    boolean good() { return normal() && unkept(code) == 0; }

    int points() { return 4 << code.size(); }

    int wantedAt(int signal, int point) {
      for (Move move : moves())
        if (move.column == point % 4 && way(move).contains(point / 4)) return codeOf(move.to) >> signal & 1;
      return NONE;
    }

    int wanted(int signal, int point) {
      if (!good()) return STATE;
      if (signal < 0 || signal >= code.size() || point < 0 || point >= points()) return UNKNOWN;
      return wantedAt(signal, point);
    }

    Sum sumOf(int signal) {
      if (sums[signal] == null) sums[signal] = workOut(signal);
      return sums[signal];
    }

    Sum workOut(int signal) {
      int[] wants = new int[points()];
      for (int p = 0; p < points(); p++) wants[p] = wantedAt(signal, p);
      List<Product> wide = new ArrayList<>();
      for (int asked = 0; asked < points(); asked++) for (int ones = 0; ones <= asked; ones++) {
        if ((ones & ~asked) != 0 || !fits(new Product(asked, ones), wants)) continue;
        boolean widest = true;
        for (int b = 1; b < points(); b *= 2)
          if ((asked & b) != 0 && fits(new Product(asked & ~b, ones & ~b), wants)) widest = false;
        if (widest) wide.add(new Product(asked, ones));
      }
      List<Product> sum = new ArrayList<>();
      for (int p = 0; p < points(); p++) {
        int point = p;
        if (wants[p] == 1 && sum.stream().noneMatch(q -> q.has(point))) sum.add(best(wide, p, p));
      }
      int plain = sum.size();
      for (int p = 0; p < points(); p++) for (int b = 1; b < points(); b *= 2) {
        if ((p & b) != 0 || wants[p] != 1 || wants[p + b] != 1) continue;
        int low = p, high = p + b;
        if (sum.stream().noneMatch(q -> q.has(low) && q.has(high))) sum.add(best(wide, low, high));
      }
      return new Sum(wide, sum, sum.size() - plain);
    }

    static boolean fits(Product product, int[] wants) {
      boolean one = false;
      for (int p = 0; p < wants.length; p++) {
        if (!product.has(p)) continue;
        if (wants[p] == 0) return false;
        one |= wants[p] == 1;
      }
      return one;
    }

    static Product best(List<Product> wide, int low, int high) {
      Product best = null;
      for (Product q : wide)
        if (q.has(low) && q.has(high) && (best == null || Integer.bitCount(q.asked) < Integer.bitCount(best.asked))) best = q;
      return best;
    }

    int logic(int signal, int what) {
      if (!good()) return STATE;
      if (signal < 0 || signal >= code.size()) return UNKNOWN;
      if (what < 0 || what > 5) return OUTSIDE;
      Sum sum = sumOf(signal);
      if (what == 0) return sum.wide.size();
      if (what == 1) return sum.all.size();
      if (what == 2) return sum.flickers;
      if (what == 3) return sum.all.stream().mapToInt(q -> Integer.bitCount(q.asked)).sum();
      int found = 0;
      for (int p = 0; p < points(); p++) if (wantedAt(signal, p) == 5 - what) found++;
      return found;
    }

    int told(int signal, int product, int what, boolean wide) {
      if (!good()) return STATE;
      if (signal < 0 || signal >= code.size()) return UNKNOWN;
      List<Product> list = wide ? sumOf(signal).wide : sumOf(signal).all;
      if (product < 0 || product >= list.size()) return UNKNOWN;
      if (what < 0 || what > 1) return OUTSIDE;
      return what == 0 ? list.get(product).asked : list.get(product).ones;
    }

    int product(int signal, int product, int what) { return told(signal, product, what, false); }
    int wide(int signal, int product, int what) { return told(signal, product, what, true); }

    int walk(int s) {
      if (!isState(s)) return UNKNOWN;
      int ahead = at;
      at = s; turns = 0; changes = 0;
      return ahead;
    }

    int turn(int c) {
      if (c < 0 || c >= columns()) return UNKNOWN;
      if (at == NONE || entry(at, c) == NONE) return STATE;
      int to = entry(at, c);
      if (normal()) changes += Integer.bitCount(codeOf(at) ^ codeOf(to));
      turns++;
      at = to;
      return to;
    }

    int count(int what) {
      int[] all = {page.length(), rows.size(), columns(), at, turns, changes, read};
      return what < 0 || what > 6 ? OUTSIDE : all[what];
    }

    long digest() {
      List<Integer> numbers = new ArrayList<>();
      for (int s = 0; s < rows.size(); s++) for (int c = 0; c < columns(); c++) numbers.add(entry(s, c));
      if (!rows.isEmpty()) for (int w = 0; w <= 4; w++) numbers.add(about(w));
      if (normal()) {
        for (int p = 0; p < partings.size(); p++) for (int w = 0; w <= 2; w++) numbers.add(parting(p, w));
        for (int i = -1; i <= 4; i++) numbers.add(least(i));
        for (int s = 0; s < rows.size(); s++) numbers.add(code(s));
      }
      for (int w = 0; w <= 5; w++) numbers.add(coded(w));
      if (good()) for (int i = 0; i < code.size(); i++) {
        for (int w = 0; w <= 5; w++) numbers.add(logic(i, w));
        for (int p = 0; p < logic(i, 1); p++) { numbers.add(product(i, p, 0)); numbers.add(product(i, p, 1)); }
      }
      for (char sign : page.toCharArray()) numbers.add((int) sign);
      for (int w = 0; w <= 6; w++) numbers.add(count(w));
      long h = 1667;
      for (int number : numbers) h = 31 * h + number;
      return h;
    }
  }
}
