import java.math.BigInteger;
import java.util.ArrayList;
import java.util.List;
import java.util.function.Supplier;
import java.util.function.ToLongFunction;

/**
 * Each sentence of the document that names a boundary case: the last value that is let in and the first that is
 * not, empty and full, no TABLE and one that is not NORMAL, each refusal with what it leaves as it was, and which
 * of two refusals comes first. A label begins with the number of the promise.
 */
public final class EdgesTest {
  private static final int NONE = -1, UNKNOWN = -1001, OUTSIDE = -1002, STATE = -1003, FULL = -1004;
  private static final int LOW = Integer.MIN_VALUE, HIGH = Integer.MAX_VALUE;
  private static final String ENTRIES = "abcdef-";
  // LEAST CODE of five SIGNALS, and how many PARTINGS random search found at most.
  private static final String FIVE = "baaa;bfbd;feba;fadd;eeed;ffaf", FIVE_OF_FIVE = "aeca;acdb;cccc;ecda;eece";
  private static final String MANY_PARTINGS = "eaaa;beba;cedc;dddd;eede;defa";
  private static int wrong = 0;

  public static void main(String[] args) {
    newObject(); objectsApart(); lastCall();
    letterCodes(); letterFull(); letterRefusals(); blankEdges();
    faultNext(); faultPlaces(); faultChangesNothing();
    tableSizes(); tableRefusals(); tableStatesWithoutRow(); tableTakesTheOtherAway(); tableBehindTable();
    entryBounds(); entryRefusals();
    aboutBounds(); aboutAmiss(); aboutCounts();
    partingBounds(); partingOrder(); partingLeftOut(); partingKept();
    leastBounds(); leastChoice(); leastOfFive();
    putBounds(); putFull(); clearEdges(); codeEdges();
    codedBounds(); codedEmptyAndFull(); codedWild(); codedChanges();
    wantedBounds(); wantedFree(); wantedRefusals();
    logicBounds(); logicEmptyAndFull(); productBounds(); wideBounds(); sumOrder(); sumOfAllBits(); flickerAtTheFirstPoint();
    sumsAreOfTheCodeNow();
    walkBounds(); walkAnew(); turnBounds(); turnOpen(); countBounds(); countChanges();
    digestWraps(); digestParts(); digestChangesNothing();
    System.out.println(wrong == 0 ? "all edges hold" : wrong + " answers at edges are wrong");
    if (wrong != 0) System.exit(1);
  }

  // ---- helpers

  private static void due(String what, long got, long want) {
    if (got != want) { wrong++; System.out.println(what + " answered " + got + ", due is " + want); }
  }

  private static FlowCodes write(FlowCodes x, String text) {
    for (char sign : text.toCharArray()) x.letter(sign);
    return x;
  }

  private static FlowCodes page(String text) { return write(new FlowCodes(), text); }

  private static FlowCodes read(String text) {
    FlowCodes x = page(text);
    due("table() of " + text, x.table(), text.split(";").length);
    return x;
  }

  /** A TABLE with a CODE of one's own. */
  private static FlowCodes coded(String text, int... signals) {
    FlowCodes x = read(text);
    x.clear();
    for (int i = 0; i < signals.length; i++) due("put for " + text, x.put(signals[i]), i + 1);
    return x;
  }

  private static String rows(int rows, String row) {
    StringBuilder text = new StringBuilder(row);
    for (int i = 1; i < rows; i++) text.append(';').append(row);
    return text.toString();
  }

  private static String many(int times, String sign) { return sign.repeat(times); }

  /** Objects in all kinds of states, with something on THE PAGE and on the way wherever there can be. */
  private static FlowCodes none() { return new FlowCodes(); }
  private static FlowCodes fullPage() { return page(many(40, "a")); }
  private static FlowCodes amiss() { return walked(read("ba;ab"), "ab;ac"); }
  private static FlowCodes good() { return walked(read("abaa;abbb"), "ab;a"); }
  private static FlowCodes bare() { return walked(coded("abaa;abbb"), "ab;ab;"); }
  private static FlowCodes poor() { return walked(coded("abaa;abbb", 0, 3), "ab;xb"); }
  private static FlowCodes full() { return walked(coded("abaa;abbb", 2, 2, 2, 2, 2), many(40, "-")); }
  private static FlowCodes fullAndPoor() { return walked(coded("abaa;abbb", 0, 0, 0, 3, 3), ""); }

  private static FlowCodes walked(FlowCodes x, String text) {
    write(x, text);
    x.walk(0);
    x.turn(1);
    x.turn(0);
    return x;
  }

  private static final List<Supplier<FlowCodes>> NO_TABLE = List.of(EdgesTest::none, EdgesTest::fullPage);
  private static final List<Supplier<FlowCodes>> NOT_NORMAL = List.of(EdgesTest::none, EdgesTest::fullPage, EdgesTest::amiss);
  private static final List<Supplier<FlowCodes>> NOT_GOOD = List.of(EdgesTest::none, EdgesTest::fullPage, EdgesTest::amiss,
      EdgesTest::bare, EdgesTest::poor, EdgesTest::fullAndPoor);
  private static final List<Supplier<FlowCodes>> GOOD = List.of(EdgesTest::good, EdgesTest::full);
  private static final List<Supplier<FlowCodes>> ALL = List.of(EdgesTest::none, EdgesTest::fullPage, EdgesTest::amiss,
      EdgesTest::good, EdgesTest::bare, EdgesTest::poor, EdgesTest::full, EdgesTest::fullAndPoor);

  /** The call is refused as told, and then the object is as one on which it was not called, to the next calls too. */
  private static void refused(String what, int want, Supplier<FlowCodes> maker, ToLongFunction<FlowCodes> call) {
    FlowCodes x = maker.get(), twin = maker.get();
    due(what, call.applyAsLong(x), want);
    same(what + " (what it left)", x, twin);
  }

  private static void refused(String what, int want, List<Supplier<FlowCodes>> makers, ToLongFunction<FlowCodes> call) {
    for (Supplier<FlowCodes> maker : makers) refused(what, want, maker, call);
  }

  private static void same(String what, FlowCodes x, FlowCodes twin) {
    List<ToLongFunction<FlowCodes>> next = new ArrayList<>();
    next.add(FlowCodes::digest);
    next.add(FlowCodes::fault);
    next.add(y -> y.wanted(0, 5));
    next.add(y -> y.wide(0, 1, 0));
    next.add(y -> y.turn(1));
    next.add(y -> y.turn(3));
    next.add(FlowCodes::digest);
    next.add(FlowCodes::table);
    next.add(y -> y.letter('b'));
    next.add(y -> y.put(1));
    next.add(FlowCodes::digest);
    next.add(y -> y.walk(1));
    next.add(y -> y.turn(0));
    next.add(FlowCodes::table);
    next.add(FlowCodes::clear);
    next.add(FlowCodes::blank);
    next.add(FlowCodes::digest);
    for (ToLongFunction<FlowCodes> call : next) due(what, call.applyAsLong(x), call.applyAsLong(twin));
  }

  /** As the document says it, but with numbers that have no end, cut to a long behind. */
  private static long wrapped(List<Integer> numbers) {
    BigInteger h = BigInteger.valueOf(1667);
    for (int number : numbers) h = h.multiply(BigInteger.valueOf(31)).add(BigInteger.valueOf(number));
    return h.longValue();
  }

  private static List<Integer> list(int... numbers) {
    List<Integer> all = new ArrayList<>();
    for (int number : numbers) all.add(number);
    return all;
  }

  // ---- promise 1

  /** "No TABLE, no CODE": what each call answers then, and which of two refusals. */
  private static void newObject() {
    FlowCodes x = new FlowCodes();
    int[] counts = {0, 0, 0, NONE, 0, 0, 0};
    for (int w = 0; w < 7; w++) due("1 count", x.count(w), counts[w]);
    due("1 fault", x.fault(), 0);
    due("1 blank", x.blank(), 0);
    for (int w = 0; w <= 4; w++) due("1 about", x.about(w), STATE);
    for (int w = 0; w <= 2; w++) for (int p = -1; p <= 1; p++) due("1 parting", x.parting(p, w), STATE);
    for (int i = -1; i <= 4; i++) due("1 least", x.least(i), STATE);
    for (int w = 0; w <= 5; w++) due("1 coded", x.coded(w), STATE);
    for (int i = -1; i <= 1; i++) {
      due("1 entry", x.entry(i, 0), UNKNOWN);
      due("1 entry", x.entry(0, i), UNKNOWN);
      due("1 put", x.put(i), STATE);
      due("1 code", x.code(i), UNKNOWN);
      due("1 wanted", x.wanted(i, 0), STATE);
      due("1 wanted", x.wanted(0, i), STATE);
      due("1 logic", x.logic(i, 0), STATE);
      due("1 logic", x.logic(0, i), STATE);
      due("1 product", x.product(0, i, 0), STATE);
      due("1 product", x.product(i, 0, i), STATE);
      due("1 wide", x.wide(0, i, 0), STATE);
      due("1 wide", x.wide(i, 0, i), STATE);
      due("1 walk", x.walk(i), UNKNOWN);
      due("1 turn", x.turn(i), UNKNOWN);
    }
    due("1 clear", x.clear(), STATE);
    due("1 table", x.table(), STATE);
    same("1 behind all refusals", x, new FlowCodes());
  }

  /** A new object has nothing of another one. */
  private static void objectsApart() {
    FlowCodes other = good();
    FlowCodes x = new FlowCodes();
    long before = other.digest();
    same("1 beside another one", x, new FlowCodes());
    due("1 the other one stays", other.digest(), before);
    FlowCodes one = read("ab;ab"), two = read("abc;abc;abc");
    one.clear();
    two.walk(2);
    due("1 a code of each", two.coded(0), 2);
    due("1 a walk of each", one.count(3), NONE);
    due("1 a table of each", one.count(1), 2);
    due("1 a table of each", two.count(1), 3);
  }

  /** "An object is used for at most 512 calls": the 512th is answered as all others. */
  private static void lastCall() {
    FlowCodes x = read("ab;ab");
    x.walk(0);
    int calls = 7;
    for (; calls < 511; calls++) due("turn as call " + (calls + 1), x.turn((calls + 1) % 2), (calls + 1) % 2);
    due("512th call", x.count(4), 504);
    FlowCodes y = new FlowCodes();
    for (int i = 1; i <= 511; i++) due("letter as call " + i, y.letter('a'), i <= 40 ? i : FULL);
    due("512th call", y.blank(), 40);
    FlowCodes z = full();
    for (int i = 60; i < 512; i++) z.digest(); // full() took 59
    due("512th call", z.digest(), full().digest());
  }

  // ---- promise 2

  /** "OUTSIDE: code (32 to 126)": each code of these is let in, and none beside them. */
  private static void letterCodes() {
    for (int code = 32; code <= 126; code++) {
      FlowCodes x = new FlowCodes();
      due("2 letter(" + code + ")", x.letter(code), 1);
      due("2 count behind letter(" + code + ")", x.count(0), 1);
      due("2 the code is kept", x.digest(), wrapped(list(STATE, STATE, STATE, STATE, STATE, STATE, code, 1, 0, 0, NONE, 0, 0, 0)));
    }
    int[] outside = {31, 127, 0, -1, 10, 128, 255, 256 + 97, 65536 + 97, -65536 + 97, LOW, LOW + 97, HIGH};
    for (int code : outside) refused("2 letter(" + code + ") is OUTSIDE", OUTSIDE, ALL, x -> x.letter(code));
  }

  /** "FULL: above 40". */
  private static void letterFull() {
    FlowCodes x = new FlowCodes();
    for (int i = 1; i <= 40; i++) due("2 how many THE PAGE has", x.letter(i % 2 == 0 ? 126 : 32), i);
    due("2 the 41st", x.letter('a'), FULL);
    due("2 count", x.count(0), 40);
    due("2 the 41st again", x.letter(';'), FULL);
    due("2 blank", x.blank(), 40);
    due("2 room again", x.letter('a'), 1);
    FlowCodes y = page(rows(6, "abcd"));
    y.table();
    for (int i = 1; i <= 40; i++) due("2 room behind table()", y.letter('a'), i);
    due("2 full behind table()", y.letter('a'), FULL);
  }

  private static void letterRefusals() {
    for (int code : new int[] {32, 97, 126})
      for (Supplier<FlowCodes> maker : List.<Supplier<FlowCodes>>of(EdgesTest::fullPage, EdgesTest::full))
        refused("2 FULL", FULL, maker, x -> x.letter(code));
    refused("2 OUTSIDE ahead of FULL, below", OUTSIDE, EdgesTest::fullPage, x -> x.letter(31));
    refused("2 OUTSIDE ahead of FULL, above", OUTSIDE, EdgesTest::full, x -> x.letter(127));
  }

  // ---- promise 3

  /** "THE PAGE is empty: how many letters it had": of none, one, forty; all else stays. */
  private static void blankEdges() {
    for (int size : new int[] {0, 1, 2, 39, 40}) {
      FlowCodes x = page(many(size, "b"));
      due("3 blank of " + size, x.blank(), size);
      due("3 it is empty", x.count(0), 0);
      due("3 and again", x.blank(), 0);
      due("3 fault of an empty page", x.fault(), 0);
      due("3 no TABLE of an empty page", x.table(), STATE);
      same("3 as new", x, new FlowCodes());
    }
    FlowCodes x = walked(coded("abaa;abbb", 2, 1), "ab;a");
    due("3 blank", x.blank(), 4);
    same("3 the TABLE, THE CODE and the walk stay", x, walked(coded("abaa;abbb", 2, 1), ""));
  }

  // ---- promise 4

  /** Which letters may come behind a text: of all that THE PAGE takes. */
  private static void faultNext() {
    mayCome("", ENTRIES);
    mayCome("a", ENTRIES);
    mayCome("-", ENTRIES);
    mayCome("ab", ENTRIES + ";");
    mayCome("abc", ENTRIES + ";");
    mayCome("abcd", ";");
    for (String row : new String[] {"ab", "a-c", "----"}) {
      for (int told = 1; told <= 5; told++) {
        String text = rows(told, row) + ";";
        for (int i = 0; i < row.length(); i++) mayCome(text + row.substring(0, i), ENTRIES);
        mayCome(text + row, told < 5 ? ";" : "");
      }
    }
  }

  private static void mayCome(String text, String letters) {
    for (char sign = 32; sign <= 126; sign++) {
      boolean may = letters.indexOf(sign) >= 0;
      due("4 '" + sign + "' behind '" + text + "'", page(text + sign).fault(), text.length() + (may ? 1 : 0));
    }
  }

  /** "The first letter": what comes behind it does not matter; "how many letters it has, if there is none". */
  private static void faultPlaces() {
    faultIs("", 0);
    faultIs("f", 1);
    faultIs(rows(6, "ffff"), 29);
    faultIs(rows(6, "ff"), 17);
    faultIs(rows(2, "ff"), 5);
    faultIs("gb;ab", 0);
    faultIs("ab;ab ", 5);
    faultIs("a;ab;ab", 1);
    faultIs("ab;x;;;x", 3);
    faultIs("abcdeabcde", 4);
    faultIs(many(40, "a"), 4);
    faultIs(many(40, ";"), 0);
    faultIs(many(40, "~"), 0);
    faultIs(rows(6, "abcd") + many(11, ";"), 29);
    faultIs(rows(6, "abcd") + many(11, "a"), 29);
    faultIs(rows(6, "abc") + many(17, "-"), 23);
    faultIs(rows(5, "abcd") + ";abc" + many(12, ";"), 28);
  }

  private static void faultIs(String text, int place) {
    FlowCodes x = page(text);
    due("4 fault of '" + text + "'", x.fault(), place);
    due("4 once more", x.fault(), place);
  }

  private static void faultChangesNothing() {
    for (Supplier<FlowCodes> maker : ALL) {
      FlowCodes x = maker.get();
      x.fault();
      same("4 fault() changes nothing", x, maker.get());
    }
    FlowCodes x = page("ab;a");
    due("4 ahead of the last letter", x.fault(), 4);
    x.letter('b');
    due("4 behind it", x.fault(), 5);
    x.table();
    due("4 THE PAGE of a TABLE is gone", x.fault(), 0);
  }

  // ---- promise 5

  /** "two to six ROWS", "ENTRIES (two to four)": all sizes that are let in, and those around them. */
  private static void tableSizes() {
    for (int rows = 1; rows <= 7; rows++) for (int width = 1; width <= 5; width++) {
      String text = rows(rows, many(width, "a"));
      if (text.length() > 40) continue;
      FlowCodes x = page(text);
      boolean is = rows >= 2 && rows <= 6 && width >= 2 && width <= 4;
      due("5 table() of " + text, x.table(), is ? rows : STATE);
      due("5 STATES of " + text, x.count(1), is ? rows : 0);
      due("5 COLUMNS of " + text, x.count(2), is ? width : 0);
      due("5 THE PAGE behind " + text, x.count(0), is ? 0 : text.length());
      due("5 how often read", x.count(6), is ? 1 : 0);
    }
  }

  /** "STATE: it is none": and then THE PAGE, the TABLE, THE CODE and the walk stay. */
  private static void tableRefusals() {
    String[] none = {"", "a", "ab", "abcd", ";", "ab;", ";ab", "ab;a", "abc;ab", "ab;abc", "ab;ab;", "ab;ab;a", "ab;;ab",
        "ab;ab;;", "ab ;ab", "ab;ab ", " ab;ab", "ab,ab", "ab:ab", "Ab;ab", "ab;aB", "ab;a`", "ab;ag", "a.;ab", "a,;ab", "a_;ab",
        "a;b", "abcde;abcde", rows(7, "ab"), rows(6, "ab") + ";", rows(5, "ab") + ";a", rows(6, "abcd") + "a", many(40, "a"), many(40, "-")};
    for (String text : none) {
      refused("5 no TABLE: '" + text + "'", STATE, () -> page(text), FlowCodes::table);
      refused("5 no TABLE behind another: '" + text + "'", STATE, () -> walked(coded("abaa;abbb", 2, 1), text), FlowCodes::table);
      refused("5 no TABLE behind one amiss: '" + text + "'", STATE, () -> walked(read("ba;ab"), text), FlowCodes::table);
    }
    FlowCodes x = page("ab;a");
    due("5 not yet", x.table(), STATE);
    x.letter('b');
    due("5 but with what came behind", x.table(), 2);
  }

  /** "or a STATE is told for which there is no ROW": the last STATE with a ROW and the first without, at each place. */
  private static void tableStatesWithoutRow() {
    for (int rows = 2; rows <= 6; rows++) for (int width = 2; width <= 4; width++) {
      String plain = rows(rows, many(width, "-"));
      for (int place = 0; place < plain.length(); place++) {
        if (plain.charAt(place) == ';') continue;
        String head = plain.substring(0, place), tail = plain.substring(place + 1);
        String last = head + (char) ('a' + rows - 1) + tail, first = head + (char) ('a' + rows) + tail;
        due("5 " + last, page(last).table(), rows);
        FlowCodes x = page(first);
        due("5 fault of " + first, x.fault(), rows == 6 ? place : first.length());
        due("5 " + first, x.table(), STATE);
        due("5 the page of " + first, x.count(0), first.length());
        if (rows < 6) due("5 'f' in " + plain, page(head + "f" + tail).table(), STATE);
      }
    }
  }

  /** "another one is gone, with its CODE; one walks at no STATE"; "THE PAGE is empty then". */
  private static void tableTakesTheOtherAway() {
    for (Supplier<FlowCodes> maker : ALL) {
      FlowCodes x = maker.get();
      int read = x.count(6);
      x.blank();
      due("5 over another", write(x, "abc;abc;abc").table(), 3);
      due("5 the page", x.count(0), 0);
      due("5 at no STATE", x.count(3), NONE);
      due("5 no turns", x.count(4), 0);
      due("5 no changes", x.count(5), 0);
      due("5 read", x.count(6), read + 1);
      due("5 THE CODE is the LEAST one", x.coded(0), 2);
      due("5 of it", x.code(1) + 4 * x.code(2), 1 + 4 * 2);
      due("5 turn() at no STATE", x.turn(0), STATE);
      due("5 PARTINGS", x.about(4), 3);
      due("5 what is WANTED", x.wanted(1, 2), 1);
      due("5 an empty page is none", x.table(), STATE);
    }
    FlowCodes x = full();
    x.blank();
    due("5 one that is not NORMAL", write(x, "ba;ab").table(), 2);
    due("5 has no PARTINGS", x.about(4), NONE);
    due("5 has no CODE", x.coded(0), STATE);
    due("5 its STATES neither", x.code(0), STATE);
    due("5 nothing is WANTED", x.wanted(0, 0), STATE);
    due("5 one walks there, too", x.walk(1), NONE);
    x.turn(0);
    due("5 no SIGNAL changes", x.count(5), 0);
    due("5 again the same TABLE", write(x, "abaa;abbb").table(), 2);
    due("5 with its LEAST CODE", x.coded(0), 1);
    due("5 behind the others", x.count(6), 3);
    FlowCodes small = read(FIVE);
    due("5 a small one behind a large one", write(small, "ab;ab").table(), 2);
    due("5 STATES of it", small.walk(2), UNKNOWN);
    due("5 COLUMNS of it", small.count(2), 2);
    due("5 SIGNALS of it", small.coded(0), 1);
  }

  /** Nothing of a TABLE is left behind another one, of whatever size and kind, with all asked for in between. */
  private static void tableBehindTable() {
    String[] texts = {"ab;ab", "--;--", "ba;ab", "abaa;abbb", "a-;b-;b-;a-", rows(6, "--"), "aaaa;bbbb;cccc;dddd;eeee;fffe", FIVE,
        MANY_PARTINGS};
    for (String first : texts) for (String second : texts) {
      FlowCodes x = walked(read(first), ""), y = read("b-;--");
      x.digest();
      write(x, second).table();
      write(y, second).table();
      same("5 " + second + " behind " + first, x, y);
    }
    FlowCodes x = read(MANY_PARTINGS);
    write(x, "--;--").table();
    aboutIs(x, 1, NONE, 0, 0, 1);
    due("5 PARTINGS of the new one", x.parting(0, 0), 1);
    due("5 and no more", x.parting(1, 0), UNKNOWN);
  }

  // ---- promise 6

  private static void entryBounds() {
    for (int rows = 2; rows <= 6; rows++) for (int width = 2; width <= 4; width++) {
      FlowCodes x = read(FIVE);
      write(x, rows(rows, "-b-a".substring(0, width))).table();
      for (int s = -2; s <= 7; s++) for (int c = -2; c <= 5; c++) {
        boolean is = s >= 0 && s < rows && c >= 0 && c < width;
        int told = c == 1 ? 1 : c == 3 ? 0 : NONE;
        due("6 entry(" + s + ", " + c + ") of " + rows + " by " + width, x.entry(s, c), is ? told : UNKNOWN);
      }
    }
    FlowCodes x = read(rows(6, "abcf"));
    due("6 the last one", x.entry(5, 3), 5);
    due("6 the first one", x.entry(0, 0), 0);
    due("6 of a TABLE that is not NORMAL", read("ba;ab").entry(0, 0), 1);
    due("6 rows and columns are not the same", read("a-;bb;cc").entry(0, 1), NONE);
    due("6 rows and columns are not the same", read("a-;bb;cc").entry(1, 0), 1);
  }

  private static void entryRefusals() {
    for (int far : new int[] {-1, 2, 6, LOW, HIGH}) refused("6 UNKNOWN state", UNKNOWN, ALL, x -> x.entry(far, 0));
    for (int far : new int[] {-1, 4, LOW, HIGH}) {
      refused("6 UNKNOWN column", UNKNOWN, ALL, x -> x.entry(0, far));
      refused("6 UNKNOWN both", UNKNOWN, ALL, x -> x.entry(far, far));
    }
    refused("6 no TABLE", UNKNOWN, NO_TABLE, x -> x.entry(0, 0));
  }

  // ---- promise 7

  private static void aboutBounds() {
    for (int what : new int[] {-1, 5, LOW, HIGH}) refused("7 OUTSIDE (ahead of STATE)", OUTSIDE, ALL, x -> x.about(what));
    for (int w = 0; w <= 4; w++) { int what = w; refused("7 no TABLE", STATE, NO_TABLE, x -> x.about(what)); }
    aboutIs(amiss(), 0, 0, 4, 2, NONE);
    aboutIs(good(), 1, NONE, 8, 6, 1);
    aboutIs(bare(), 1, NONE, 8, 6, 1);
  }

  private static void aboutIs(FlowCodes x, int... answers) {
    for (int w = 0; w < 5; w++) due("7 about(" + w + ")", x.about(w), answers[w]);
  }

  /** "The first ENTRY that is not so (row by row)"; "4 times the STATE, and the COLUMN (NONE)". */
  private static void aboutAmiss() {
    due("7 row by row, not column by column", read("ab;b-").about(1), 1);
    due("7 the first", read("bb;--").about(1), 0);
    due("7 OPEN is not STABLE", read("-b;--").about(1), 1);
    due("7 a STATE that goes on is not STABLE", read("ab;ca;cc").about(1), 1);
    due("7 the last of all", read("aaaa;bbbb;cccc;dddd;ee--;fffe").about(1), 23);
    due("7 only the last of four COLUMNS", read("aaaa;bbb-;cccb").about(1), 11);
    due("7 none is AMISS", read("aaaa;bbbb;cccc;dddd;eeee;ffff").about(1), NONE);
    due("7 none is AMISS, all being OPEN", read("--;--").about(1), NONE);
    due("7 STABLE in another COLUMN is not enough", read("ab;b-").about(0), 0);
    due("7 two that go to one another", read("b-;a-").about(1), 0);
    due("7 its own STATE is STABLE", read("a-;-b").about(0), 1);
  }

  /** None, one, all. */
  private static void aboutCounts() {
    aboutIs(read("--;--"), 1, NONE, 0, 0, 1);
    aboutIs(read("a-;--"), 1, NONE, 1, 1, 1);
    aboutIs(read("b-;--"), 0, 0, 1, 0, NONE);
    aboutIs(read("aaaa;bbbb;cccc;dddd;eeee;ffff"), 1, NONE, 24, 24, 15);
    aboutIs(read(rows(6, "----")), 1, NONE, 0, 0, 15);
    aboutIs(read(rows(6, "bcde")), 1, NONE, 24, 4, 15);
    aboutIs(read(rows(6, "ffff")), 1, NONE, 24, 4, 15);
    aboutIs(read(MANY_PARTINGS), 1, NONE, 24, 15, 23);
  }

  // ---- promise 8

  private static void partingBounds() {
    for (int what : new int[] {-1, 3, LOW, HIGH}) for (int p : new int[] {-1, 0, 1, HIGH})
      refused("8 OUTSIDE (ahead of all)", OUTSIDE, ALL, x -> x.parting(p, what));
    for (int w = 0; w <= 2; w++) for (int p : new int[] {-1, 0, 1, LOW, HIGH}) {
      int what = w;
      refused("8 STATE ahead of UNKNOWN", STATE, NOT_NORMAL, x -> x.parting(p, what));
      if (p != 0) for (Supplier<FlowCodes> maker : List.<Supplier<FlowCodes>>of(EdgesTest::good, EdgesTest::bare, EdgesTest::full))
        refused("8 UNKNOWN", UNKNOWN, maker, x -> x.parting(p, what));
    }
    String[] texts = {"ab;ab", "--;--;--", rows(6, "--"), MANY_PARTINGS};
    int[] last = {0, 2, 14, 22};
    for (int i = 0; i < texts.length; i++) for (int w = 0; w <= 2; w++) {
      FlowCodes x = read(texts[i]);
      due("8 the first", x.parting(0, w) > 0 ? 1 : 0, 1);
      due("8 the last", x.parting(last[i], w) > 0 ? 1 : 0, 1);
      due("8 behind the last", x.parting(last[i] + 1, w), UNKNOWN);
      due("8 ahead of the first", x.parting(-1, w), UNKNOWN);
    }
  }

  private static void partingsAre(String text, int[]... pairs) {
    FlowCodes x = read(text);
    due("8 how many of " + text, x.about(4), pairs.length);
    for (int p = 0; p < pairs.length; p++) {
      due("8 the one set of " + p + " of " + text, x.parting(p, 0), pairs[p][0]);
      due("8 the other set of " + p + " of " + text, x.parting(p, 1), pairs[p][1]);
    }
  }

  /** "the lesser number first"; "in order of their lesser numbers, then of their greater ones". */
  private static void partingOrder() {
    partingsAre("--;--", new int[] {1, 2});
    partingsAre("--;--;--", new int[] {1, 2}, new int[] {1, 4}, new int[] {2, 4});
    int[][] all = new int[15][];
    for (int i = 0, p = 0; i < 6; i++) for (int j = i + 1; j < 6; j++, p++) all[p] = new int[] {1 << i, 1 << j};
    partingsAre(rows(6, "----"), all);
    // "d" goes to "a", "c" to "b": the set with "a" is the greater number.
    partingsAre("a-;b-;b-;a-", new int[] {1, 8}, new int[] {2, 4}, new int[] {6, 9});
    partingsAre(FIVE_OF_FIVE, new int[] {2, 9}, new int[] {3, 4}, new int[] {3, 24}, new int[] {4, 9}, new int[] {4, 24},
        new int[] {5, 10}, new int[] {6, 17}, new int[] {9, 16}, new int[] {10, 20}, new int[] {12, 17});
  }

  /** "more than once are meant once"; "one is left out, if there is another one", either way round. */
  private static void partingLeftOut() {
    partingsAre("aa;bb;bb;aa", new int[] {1, 8}, new int[] {2, 4}, new int[] {6, 9});
    partingsAre("aaaa;bbbb", new int[] {1, 2});
    // MOVES to like STATES, and of unlike COLUMNS, tell nothing.
    partingsAre("aa;aa;aa", new int[] {1, 2}, new int[] {1, 4}, new int[] {2, 4});
    partingsAre("a-;-b;ab", new int[] {1, 2}, new int[] {1, 4}, new int[] {2, 4});
    // a | bc holds a | b and a | c; b | c stays.
    partingsAre("a-;b-;b-", new int[] {1, 6}, new int[] {2, 4});
    // A wider one that comes later takes away what came ahead, and one ahead keeps off what comes later.
    partingsAre("aa;bb;cb", new int[] {1, 6}, new int[] {2, 4});
    partingsAre("aa;bb;bc", new int[] {1, 6}, new int[] {2, 4});
    // Neither of ab | c and a | bc holds the other one.
    partingsAre("aa;ab;cb", new int[] {1, 6}, new int[] {3, 4});
  }

  /** "how many SIGNALS of THE CODE KEEP it (0: there is no CODE)": none to five, either way round. */
  private static void partingKept() {
    FlowCodes x = coded("a-;b-;b-;a-");
    for (int p = 0; p < 3; p++) due("8 no CODE", x.parting(p, 2), 0);
    int[] signals = {6, 9, 6, 9, 6};
    for (int i = 0; i < 5; i++) {
      x.put(signals[i]);
      due("8 KEPT by one more", x.parting(2, 2), i + 1);
    }
    int[][] kept = {{0, 0, 0, 0}, {15, 0, 0, 0}, {1, 1, 0, 0}, {2, 0, 1, 0}, {7, 1, 0, 0}, {14, 1, 0, 0}, {10, 1, 1, 0}, {5, 1, 1, 0},
        {8, 1, 0, 0}, {4, 0, 1, 0}, {12, 1, 1, 0}, {6, 0, 0, 1}, {9, 0, 0, 1}};
    for (int[] row : kept) {
      FlowCodes y = coded("a-;b-;b-;a-", row[0]);
      for (int p = 0; p < 3; p++) due("8 kept by " + row[0], y.parting(p, 2), row[p + 1]);
    }
  }

  // ---- promise 9

  private static void leastBounds() {
    for (int signal : new int[] {-2, 5, LOW, HIGH}) refused("9 OUTSIDE (ahead of STATE)", OUTSIDE, ALL, x -> x.least(signal));
    for (int i = -1; i <= 4; i++) { int signal = i; refused("9 STATE", STATE, NOT_NORMAL, x -> x.least(signal)); }
  }

  private static void leastIs(FlowCodes x, int... signals) {
    due("9 how many", x.least(NONE), signals.length);
    for (int i = 0; i < 5; i++) due("9 least(" + i + ")", x.least(i), i < signals.length ? signals[i] : NONE);
  }

  /** "0 for "a", in rising order, that of fewest SIGNALS, of these the first". */
  private static void leastChoice() {
    leastIs(read("--;--"), 2);
    leastIs(read("--;--;--"), 2, 4);
    // All four SIGNALS that keep a | bc have b and c alike, so 6 alone is not enough: b | c is left.
    leastIs(read("a-;b-;b-"), 2, 6);
    leastIs(read("a-;b-;b-;a-"), 6, 10);
    leastIs(read("--;--;--;--"), 6, 10);
    for (Supplier<FlowCodes> maker : List.<Supplier<FlowCodes>>of(EdgesTest::good, EdgesTest::bare, EdgesTest::poor, EdgesTest::full))
      leastIs(maker.get(), 2);
  }

  /** "five at most": none of five is left out, and least(4) is the last one; THE CODE is full then. */
  private static void leastOfFive() {
    leastIs(read(FIVE), 6, 20, 26, 34, 44);
    leastIs(read(FIVE_OF_FIVE), 2, 10, 14, 20, 24);
    FlowCodes x = read(FIVE);
    due("9 all of it is THE CODE", x.coded(0), 5);
    due("9 GOOD", x.coded(1), 1);
    int[] codes = {0, 1 + 4 + 8, 1 + 2 + 16, 4 + 16, 2 + 4, 8 + 16};
    // 6: b c; 20: c e; 26: b d e; 34: b f; 44: c d f.
    for (int s = 0; s < 6; s++) due("9 code of " + s, x.code(s), codes[s]);
    refused("10 FULL by the LEAST CODE", FULL, () -> read(FIVE), y -> y.put(0));
  }

  // ---- promise 10

  /** "OUTSIDE: bits (of other STATES)". */
  private static void putBounds() {
    for (int states = 2; states <= 6; states++) {
      String text = rows(states, "--");
      int all = (1 << states) - 1;
      for (int bits : new int[] {0, 1, all - 1, all}) due("10 put(" + bits + ") with " + states, coded(text).put(bits), 1);
      for (int bits : new int[] {all + 1, all + 2, 2 * all + 1, -1, LOW, HIGH, LOW + 1, 64, 128})
        refused("10 put(" + bits + ") with " + states, OUTSIDE, () -> coded(text, 1), x -> x.put(bits));
    }
    for (int bits : new int[] {0, 1, 3, 4, 64, -1, LOW, HIGH}) refused("10 STATE ahead of OUTSIDE", STATE, NOT_NORMAL, x -> x.put(bits));
    FlowCodes x = coded("ab;ab", 3);
    due("10 the CODE of a", x.code(0), 1);
    due("10 the CODE of b", x.code(1), 1);
  }

  /** "FULL: it has five"; "behind the others: how many it has". */
  private static void putFull() {
    FlowCodes x = read("ab;ab");
    for (int i = 2; i <= 5; i++) due("10 behind the others", x.put(i % 2 + 1), i);
    due("10 the sixth", x.put(2), FULL);
    due("10 CODE of a", x.code(0), 2 + 8);
    due("10 CODE of b", x.code(1), 1 + 4 + 16);
    for (Supplier<FlowCodes> maker : List.<Supplier<FlowCodes>>of(EdgesTest::full, EdgesTest::fullAndPoor)) {
      for (int bits = 0; bits <= 3; bits++) { int told = bits; refused("10 FULL", FULL, maker, y -> y.put(told)); }
      for (int bits : new int[] {4, -1, LOW, HIGH}) refused("10 OUTSIDE ahead of FULL", OUTSIDE, maker, y -> y.put(bits));
    }
    due("10 cleared", x.clear(), 5);
    for (int i = 1; i <= 5; i++) due("10 room again", x.put(0), i);
    due("10 full again", x.put(0), FULL);
  }

  // ---- promises 11, 12

  private static void clearEdges() {
    refused("11 STATE", STATE, NOT_NORMAL, FlowCodes::clear);
    for (int size = 0; size <= 5; size++) {
      FlowCodes x = coded("ab;ab", new int[] {2, 1, 0, 3, 2});
      x.clear();
      for (int i = 0; i < size; i++) x.put(2);
      due("11 how many it had", x.clear(), size);
      due("11 it is empty", x.coded(0), 0);
      due("11 and again", x.clear(), 0);
      due("11 the LEAST CODE stays", x.least(NONE), 1);
    }
    FlowCodes x = walked(read("abaa;abbb"), "ab");
    due("11 the walk ahead", x.count(5), 2);
    due("11 of one", x.clear(), 1);
    due("11 one walks on", x.count(3), 0);
    due("11 turns stay", x.count(4), 2);
    due("11 changes stay", x.count(5), 2);
    due("11 THE PAGE stays", x.count(0), 2);
    due("11 nothing is WANTED", x.wanted(0, 0), STATE);
    due("11 put again", x.put(2), 1);
    same("11 as it was", x, walked(read("abaa;abbb"), "ab"));
  }

  private static void codeEdges() {
    for (int state : new int[] {-1, 2, 6, LOW, HIGH}) refused("12 UNKNOWN (ahead of STATE)", UNKNOWN, ALL, x -> x.code(state));
    refused("12 no TABLE", UNKNOWN, NO_TABLE, x -> x.code(0));
    for (int s = 0; s <= 1; s++) { int state = s; refused("12 not NORMAL", STATE, EdgesTest::amiss, x -> x.code(state)); }
    for (int s = 0; s <= 1; s++) due("12 THE CODE is empty", bare().code(s), 0);
    FlowCodes x = coded(rows(6, "----"), 63, 63, 63, 63, 63);
    for (int s = 0; s < 6; s++) due("12 all of five", x.code(s), 31);
    due("12 behind the last", x.code(6), UNKNOWN);
    FlowCodes y = coded(rows(6, "----"), 1, 32, 0, 33, 63);
    int[] codes = {1 + 8 + 16, 16, 16, 16, 16, 2 + 8 + 16};
    for (int s = 0; s < 6; s++) due("12 of some", y.code(s), codes[s]);
  }

  // ---- promise 13

  private static void codedIs(String what, FlowCodes x, int... answers) {
    for (int w = 0; w < 6; w++) due("13 coded(" + w + ") " + what, x.coded(w), answers[w]);
  }

  private static void codedBounds() {
    for (int what : new int[] {-1, 6, LOW, HIGH}) refused("13 OUTSIDE (ahead of STATE)", OUTSIDE, ALL, x -> x.coded(what));
    for (int w = 0; w <= 5; w++) { int what = w; refused("13 STATE", STATE, NOT_NORMAL, x -> x.coded(what)); }
  }

  private static void codedEmptyAndFull() {
    codedIs("of an empty CODE", bare(), 0, 0, 1, 4, 2, 0);
    codedIs("of SIGNALS that KEEP nothing", poor(), 2, 0, 1, 4, 2, 0);
    codedIs("of five such", fullAndPoor(), 5, 0, 1, 4, 2, 0);
    codedIs("of five good ones", full(), 5, 1, 0, 0, NONE, 5);
    codedIs("of the LEAST one", good(), 1, 1, 0, 0, NONE, 1);
    codedIs("of five told by the table", read(FIVE), 5, 1, 0, 0, NONE, 4);
    codedIs("of no MOVES", coded("--;--"), 0, 0, 1, 0, NONE, 0);
    codedIs("of many PARTINGS", coded(MANY_PARTINGS), 0, 0, 23, 24, 0, 0);
    // All PARTINGS but one are KEPT: b | c is left.
    codedIs("of all but one", coded("--;--;--", 6), 1, 0, 1, 0, NONE, 0);
    codedIs("of all", coded("--;--;--", 6, 2), 2, 1, 0, 0, NONE, 0);
  }

  /** WILD: both are so; not by MOVES to like STATES, or in other COLUMNS; "the first of these". */
  private static void codedWild() {
    codedIs("to like STATES", coded("aa;aa"), 0, 0, 1, 0, NONE, 0);
    codedIs("in unlike COLUMNS", coded("a-;-b"), 0, 0, 1, 0, NONE, 0);
    codedIs("the first of all", coded("aa;bb"), 0, 0, 1, 4, 0, 0);
    codedIs("the last that can be the first", coded("----;----;----;----;---e;---f"), 0, 0, 15, 2, 19, 0);
    codedIs("row by row", coded("-a;b-;c-;-d"), 0, 0, 6, 4, 1, 0);
    // a 00, b 11, c 01, d 10: on the way from b to a (all four) are c and d, which rest there.
    codedIs("across the way", coded("a-;a-;c-;d-", 2 + 4, 2 + 8), 2, 0, 2, 3, 4, 2);
    // a 0010, b 1000, c 0001, d 0100: both ways have 0000, which is an end of neither.
    codedIs("between the ends alone", coded("a-;b-;a-;b-", 4, 1, 8, 2), 4, 0, 1, 2, 8, 2);
  }

  /** "the greatest number of SIGNALS that change by a MOVE": 0 to 5. */
  private static void codedChanges() {
    for (int size = 0; size <= 5; size++) {
      FlowCodes x = coded("ab;ab");
      for (int i = 0; i < size; i++) x.put(i % 2 + 1);
      due("13 changes of " + size, x.coded(5), size);
    }
    due("13 STABLE alone", coded("aa;bb", 2, 2, 2, 2, 2).coded(5), 0);
    due("13 the greatest, not the last", coded("a-;a-;a-", 2, 2, 4).coded(5), 2);
    due("13 the greatest, not the first", coded("c-;c-;c-", 6, 4).coded(5), 2);
  }

  // ---- promise 14

  /** "POINTS: the COLUMN (0 to 3), and 4 times a CODE (0 to 2 to the power of how many SIGNALS there are, less 1)". */
  private static void wantedBounds() {
    for (int size = 1; size <= 5; size++) {
      FlowCodes x = coded("abaa;abbb");
      for (int i = 0; i < size; i++) x.put(2);
      int points = 4 << size;
      for (int s = 0; s < size; s++) {
        due("14 the first", x.wanted(s, 0), 0);
        due("14 the last", x.wanted(s, points - 1), 1);
        due("14 behind the last", x.wanted(s, points), UNKNOWN);
        due("14 ahead of the first", x.wanted(s, -1), UNKNOWN);
      }
      due("14 a SIGNAL behind the last", x.wanted(size, 0), UNKNOWN);
      due("14 a SIGNAL ahead of the first", x.wanted(-1, 0), UNKNOWN);
    }
    for (int far : new int[] {-1, 5, LOW, HIGH}) refused("14 UNKNOWN signal", UNKNOWN, GOOD, x -> x.wanted(far, 0));
    for (int far : new int[] {-1, 128, LOW, HIGH}) refused("14 UNKNOWN point", UNKNOWN, GOOD, x -> x.wanted(0, far));
    refused("14 UNKNOWN both", UNKNOWN, GOOD, x -> x.wanted(5, 128));
  }

  /** "else it is FREE": also in COLUMNS that are not there; s and t themselves are on the way. */
  private static void wantedFree() {
    // a 00000, b 11111: all CODES are on the way from the one to the other one.
    FlowCodes x = full();
    for (int p = 0; p < 128; p++) for (int s = 0; s < 5; s++) {
      int code = p / 4, column = p % 4;
      int rests = code == 0 ? 0 : code == 31 ? 1 : NONE;
      due("14 wanted(" + s + ", " + p + ")", x.wanted(s, p), column == 0 ? 0 : column == 1 ? 1 : rests);
    }
    FlowCodes two = read("ab;ab");
    for (int p = 0; p < 8; p++) due("14 of two COLUMNS", two.wanted(0, p), p % 4 == 0 ? 0 : p % 4 == 1 ? 1 : NONE);
    FlowCodes three = read("aba;abb");
    int[] wants = {0, 1, 0, NONE, 0, 1, 1, NONE};
    for (int p = 0; p < 8; p++) due("14 of three COLUMNS", three.wanted(0, p), wants[p]);
    FlowCodes open = read("--;--");
    for (int p = 0; p < 8; p++) due("14 all is FREE", open.wanted(0, p), NONE);
    // A SIGNAL that no MOVE changes is told by the others' CODES.
    FlowCodes still = coded("ab;ab", 2, 3);
    for (int p = 0; p < 16; p++) due("14 a SIGNAL that stays", still.wanted(1, p), p >= 8 && p % 4 < 2 ? 1 : NONE);
  }

  /** "STATE: no TABLE, it is not NORMAL, or THE CODE is not GOOD", ahead of UNKNOWN, and so for all four calls. */
  private static void wantedRefusals() {
    for (int a : new int[] {-1, 0, 1, 5, LOW, HIGH}) for (int b : new int[] {-1, 0, 7, 8, 128, HIGH}) {
      refused("14 STATE ahead of UNKNOWN", STATE, NOT_GOOD, x -> x.wanted(a, b));
      refused("15 STATE ahead of all", STATE, NOT_GOOD, x -> x.logic(a, b));
      refused("16 STATE ahead of all", STATE, NOT_GOOD, x -> x.product(a, b, 0));
      refused("16 STATE ahead of all", STATE, NOT_GOOD, x -> x.product(0, a, b));
      refused("17 STATE ahead of all", STATE, NOT_GOOD, x -> x.wide(a, b, 0));
      refused("17 STATE ahead of all", STATE, NOT_GOOD, x -> x.wide(0, a, b));
    }
    FlowCodes x = coded("--;--;--", 6);
    due("14 not GOOD by one PARTING", x.wanted(0, 0), STATE);
    x.put(2);
    due("14 GOOD by one SIGNAL more", x.wanted(0, 0), NONE);
    due("14 and no more", x.wanted(2, 0), UNKNOWN);
  }

  // ---- promise 15

  private static void logicBounds() {
    for (int far : new int[] {-1, 5, LOW, HIGH}) for (int what : new int[] {-1, 0, 5, 6, LOW, HIGH})
      refused("15 UNKNOWN (ahead of OUTSIDE)", UNKNOWN, GOOD, x -> x.logic(far, what));
    for (int what : new int[] {-1, 6, LOW, HIGH}) refused("15 OUTSIDE", OUTSIDE, GOOD, x -> x.logic(0, what));
    due("15 the last SIGNAL", full().logic(4, 0), 11);
    due("15 behind the last", full().logic(5, 0), UNKNOWN);
    due("15 the only SIGNAL", good().logic(0, 5), 4);
    due("15 behind the only one", good().logic(1, 5), UNKNOWN);
  }

  private static void logicIs(String what, FlowCodes x, int signal, int... answers) {
    for (int w = 0; w < 6; w++) due("15 logic(" + signal + ", " + w + ") " + what, x.logic(signal, w), answers[w]);
  }

  private static void logicEmptyAndFull() {
    logicIs("of no MOVES", read("--;--"), 0, 0, 0, 0, 0, 0, 0);
    logicIs("of nothing but 0", read("aaaa;----"), 0, 0, 0, 0, 0, 0, 4);
    logicIs("of nothing but 1", read("----;bbbb"), 0, 1, 1, 0, 0, 4, 0);
    // All 128 POINTS are WANTED, all as 1: a SIGNAL that is 1 for both STATES, beside four that tell them apart.
    // In each COLUMN one goes to the other one, so that 64 CODES with it are on a way.
    FlowCodes ones = coded("bbaa;bbaa", 3, 2, 2, 2, 2);
    logicIs("of nothing but 1, of five", ones, 0, 1, 1, 0, 0, 64, 0);
    logicIs("of halves", ones, 1, 1, 1, 0, 1, 32, 32);
    // The more SIGNALS are alike, the more WIDE ones: "COLUMN 1", and with each SIGNAL "COLUMN 1 or 3", "COLUMN 2 or 3".
    for (int size = 1; size <= 5; size++) {
      FlowCodes x = coded("abaa;abbb");
      for (int i = 0; i < size; i++) x.put(2);
      for (int s = 0; s < size; s++) logicIs("of " + size, x, s, 1 + 2 * size, 3, 1, 6, (1 << size) + 2, (1 << size) + 2);
    }
    FlowCodes five = read(FIVE);
    logicIs("of five", five, 0, 20, 3, 1, 10, 24, 56);
    logicIs("of five", five, 4, 18, 6, 2, 19, 30, 50);
  }

  // ---- promises 16, 17

  private static void productBounds() {
    for (int far : new int[] {-1, 5, LOW, HIGH}) for (int what : new int[] {-1, 0, 1, 2, HIGH})
      refused("16 UNKNOWN signal (ahead of OUTSIDE)", UNKNOWN, GOOD, x -> x.product(far, 0, what));
    for (int far : new int[] {-1, 3, LOW, HIGH}) for (int what : new int[] {-1, 0, 1, 2, HIGH})
      refused("16 UNKNOWN product (ahead of OUTSIDE)", UNKNOWN, GOOD, x -> x.product(0, far, what));
    for (int what : new int[] {-1, 2, LOW, HIGH}) for (int p : new int[] {0, 2})
      refused("16 OUTSIDE", OUTSIDE, GOOD, x -> x.product(0, p, what));
    due("16 the last WIDE one is none of SUM", full().product(4, 10, 0), UNKNOWN);
    for (int w = -1; w <= 2; w++) {
      due("16 SUM is empty: no MOVES", read("--;--").product(0, 0, w), UNKNOWN);
      due("16 SUM is empty: nothing but 0", read("aa;--").product(0, 0, w), UNKNOWN);
      due("16 one that asks nothing", read("--;bb").product(0, 0, w), w == 0 || w == 1 ? 0 : OUTSIDE);
      due("16 behind it", read("--;bb").product(0, 1, w), UNKNOWN);
    }
  }

  private static void wideBounds() {
    for (int far : new int[] {-1, 5, LOW, HIGH}) for (int what : new int[] {-1, 0, 1, 2, HIGH})
      refused("17 UNKNOWN signal (ahead of OUTSIDE)", UNKNOWN, GOOD, x -> x.wide(far, 0, what));
    for (int far : new int[] {-1, 11, LOW, HIGH}) for (int what : new int[] {-1, 0, 1, 2, HIGH})
      refused("17 UNKNOWN product (ahead of OUTSIDE)", UNKNOWN, GOOD, x -> x.wide(0, far, what));
    for (int what : new int[] {-1, 2, LOW, HIGH}) for (int p : new int[] {0, 2})
      refused("17 OUTSIDE", OUTSIDE, GOOD, x -> x.wide(0, p, what));
    refused("17 behind the last of three", UNKNOWN, EdgesTest::good, x -> x.wide(0, 3, 0));
    refused("17 the last of eleven is asked wrongly", OUTSIDE, EdgesTest::full, x -> x.wide(4, 10, 2));
    for (int w = -1; w <= 2; w++) {
      due("17 no WIDE one: no MOVES", read("--;--").wide(0, 0, w), UNKNOWN);
      due("17 no WIDE one: nothing but 0", read("aa;--").wide(0, 0, w), UNKNOWN);
      due("17 one that asks nothing", read("--;bb").wide(0, 0, w), w == 0 || w == 1 ? 0 : OUTSIDE);
      due("17 behind it", read("--;bb").wide(0, 1, w), UNKNOWN);
    }
  }

  /** All BITS: two of the COLUMN, five of SIGNALS; WIDE ones in order; SUM "of like ones the first", then FLICKERS. */
  private static void sumOrder() {
    FlowCodes x = full();
    int[][] wide = {{3, 1}, {5, 5}, {6, 6}, {9, 9}, {10, 10}, {17, 17}, {18, 18}, {33, 33}, {34, 34}, {65, 65}, {66, 66}};
    int[][] sum = {{3, 1}, {6, 6}, {5, 5}};
    for (int s = 0; s < 5; s++) for (int w = 0; w < 2; w++) {
      for (int p = 0; p < 11; p++) due("17 wide(" + s + ", " + p + ", " + w + ")", x.wide(s, p, w), wide[p][w]);
      for (int p = 0; p < 3; p++) due("16 product(" + s + ", " + p + ", " + w + ")", x.product(s, p, w), sum[p][w]);
      due("17 behind the last", x.wide(s, 11, w), UNKNOWN);
      due("16 behind the last", x.product(s, 3, w), UNKNOWN);
    }
    // Two WIDE ones that ask the same BITS, told in order of those that have 1: 0 in COLUMNS 1 and 2, else 1.
    FlowCodes like = read("baab;baab");
    int[][] both = {{3, 0}, {3, 3}};
    for (int p = 0; p < 2; p++) for (int w = 0; w < 2; w++) {
      due("17 of like BITS", like.wide(0, p, w), both[p][w]);
      due("16 of like BITS", like.product(0, p, w), both[p][w]);
    }
    logicIs("of like BITS", like, 0, 2, 2, 0, 4, 4, 4);
  }

  private static void productsAre(String what, FlowCodes x, int signal, int[]... products) {
    due("15 PRODUCTS of SUM " + what, x.logic(signal, 1), products.length);
    for (int p = 0; p < products.length; p++) for (int w = 0; w < 2; w++)
      due("16 product(" + signal + ", " + p + ", " + w + ") " + what, x.product(signal, p, w), products[p][w]);
  }

  /** WANTED is 1 at one POINT, and 0 at all others: a PRODUCT of which no BIT can be left out. */
  private static void sumOfAllBits() {
    FlowCodes one = read("aaaa;aaab");
    logicIs("of one POINT of eight", one, 0, 1, 1, 0, 3, 1, 7);
    productsAre("of one POINT of eight", one, 0, new int[] {7, 7});
    // f 1111, a 0000, the others with one 0 each; all but f in COLUMN 3 go to a, so that all CODES are on a way.
    FlowCodes x = coded("aaaa;aaaa;aaaa;aaaa;aaaa;aaaf", 60, 58, 54, 46);
    for (int s = 0; s < 4; s++) {
      logicIs("of one POINT of 64", x, s, 1, 1, 0, 6, 1, 63);
      productsAre("of one POINT of 64", x, s, new int[] {63, 63});
    }
    // A fifth SIGNAL that stays 0 is not ASKED, and has no PRODUCT of its own.
    due("10 a fifth SIGNAL", x.put(0), 5);
    logicIs("beside a fifth SIGNAL", x, 0, 1, 1, 0, 6, 1, 63);
    productsAre("beside a fifth SIGNAL", x, 3, new int[] {63, 63});
    logicIs("of a SIGNAL that stays 0", x, 4, 0, 0, 0, 0, 0, 64);
  }

  /**
   * a 10, b 00, c 01; of SIGNAL 0 1 is WANTED at 0, 1, 4, 5, 6, 8, 12, and 0 at 2, 9, 10. The POINTS 0 and 1 are in
   * {3, 0} and {9, 1}, which came to SUM first, but both are in {10, 0} alone.
   */
  private static void flickerAtTheFirstPoint() {
    FlowCodes x = coded("caa;-cb;ccc", 4, 1);
    logicIs("of a FLICKER at POINT 0", x, 0, 4, 4, 1, 7, 7, 3);
    productsAre("of a FLICKER at POINT 0", x, 0, new int[] {3, 0}, new int[] {9, 1}, new int[] {4, 4}, new int[] {10, 0});
    int[][] wide = {{3, 0}, {4, 4}, {9, 1}, {10, 0}};
    for (int p = 0; p < 4; p++) for (int w = 0; w < 2; w++) due("17 in order", x.wide(0, p, w), wide[p][w]);
  }

  /** What was asked for ahead of put(), clear() and table() is not told any more behind them. */
  private static void sumsAreOfTheCodeNow() {
    FlowCodes x = read("abaa;abbb");
    for (int size = 2; size <= 5; size++) {
      x.digest();
      x.put(2);
      for (int s = 0; s < size; s++) logicIs("behind put()", x, s, 1 + 2 * size, 3, 1, 6, (1 << size) + 2, (1 << size) + 2);
    }
    x.clear();
    x.put(1);
    // a 1, b 0: 1 is WANTED at 0, 4, 6, 7.
    productsAre("behind clear()", x, 0, new int[] {3, 0}, new int[] {5, 4}, new int[] {6, 6});
    due("14 behind clear()", x.wanted(0, 0), 1);
    write(x, "aaaa;aaab").table();
    productsAre("behind table()", x, 0, new int[] {7, 7});
    FlowCodes twice = coded("abaa;abbb", 2, 1);
    productsAre("of the first SIGNAL", twice, 0, new int[] {3, 1}, new int[] {6, 6}, new int[] {5, 5});
    due("16 of the second SIGNAL", twice.product(1, 0, 0), 3);
    due("16 of the second SIGNAL", twice.product(1, 0, 1), 0);
  }

  // ---- promise 18

  private static void walkBounds() {
    for (int state : new int[] {-1, 2, 6, LOW, HIGH}) refused("18 UNKNOWN", UNKNOWN, ALL, x -> x.walk(state));
    for (int state : new int[] {0, 1, 5}) refused("18 no TABLE", UNKNOWN, NO_TABLE, x -> x.walk(state));
    for (int states = 2; states <= 6; states++) {
      FlowCodes x = read(rows(states, "--"));
      due("18 from none", x.walk(0), NONE);
      due("18 to the last", x.walk(states - 1), 0);
      due("18 behind the last", x.walk(states), UNKNOWN);
      due("18 at the last", x.count(3), states - 1);
      due("18 from the last", x.walk(states - 1), states - 1);
    }
  }

  private static void walkAnew() {
    for (Supplier<FlowCodes> maker : List.<Supplier<FlowCodes>>of(EdgesTest::amiss, EdgesTest::good, EdgesTest::bare, EdgesTest::full)) {
      FlowCodes x = maker.get();
      int at = x.count(3);
      due("18 turns ahead", x.count(4), 2);
      due("18 at which one did ahead", x.walk(at), at);
      due("18 turns anew, also from the same STATE", x.count(4), 0);
      due("18 changes anew", x.count(5), 0);
      due("18 at", x.count(3), at);
    }
    FlowCodes x = read("ab;ab");
    x.walk(0);
    write(x, "ab;ab").table();
    due("18 behind table() again from none", x.walk(1), NONE);
  }

  // ---- promise 19

  private static void turnBounds() {
    for (int column : new int[] {-1, 4, LOW, HIGH}) refused("19 UNKNOWN", UNKNOWN, ALL, x -> x.turn(column));
    for (int column : new int[] {0, 1, 3}) refused("19 no TABLE", UNKNOWN, NO_TABLE, x -> x.turn(column));
    for (int width = 2; width <= 4; width++) {
      String text = rows(6, "abcf".substring(0, width).replace('c', 'f'));
      int columns = width;
      for (int c = 0; c < width; c++) { int column = c; refused("19 one walks at none", STATE, () -> read(text), x -> x.turn(column)); }
      refused("19 UNKNOWN ahead of STATE", UNKNOWN, () -> read(text), x -> x.turn(columns));
      refused("19 UNKNOWN ahead of STATE", UNKNOWN, () -> read(text), x -> x.turn(-1));
      refused("19 behind the last COLUMN", UNKNOWN, () -> walked(read(text), ""), x -> x.turn(columns));
      FlowCodes x = walked(read(text), "");
      due("19 the last COLUMN", x.turn(width - 1), width == 2 ? 1 : 5);
      due("19 the first COLUMN", x.turn(0), 0);
    }
  }

  /** "STATE: .. or its ENTRY there is OPEN": one stays, and it was not done. */
  private static void turnOpen() {
    Supplier<FlowCodes> maker = () -> walked(read("abb-;ab--"), "");
    refused("19 OPEN", STATE, maker, x -> x.turn(3));
    FlowCodes x = maker.get();
    due("19 not OPEN from here", x.turn(2), 1);
    due("19 OPEN from there", x.turn(2), STATE);
    due("19 OPEN from there", x.turn(3), STATE);
    due("19 one stays", x.count(3), 1);
    due("19 three were done", x.count(4), 3);
    due("19 STABLE: one stays, but it is done", x.turn(1), 1);
    due("19 four were done", x.count(4), 4);
    refused("19 OPEN in a TABLE that is not NORMAL", STATE, () -> walked(read("ba-;ab-"), ""), y -> y.turn(2));
    refused("19 behind table() one walks at none", STATE, () -> { FlowCodes y = good(); y.blank(); write(y, "ab;ab").table(); return y; },
        y -> y.turn(1));
    FlowCodes amiss = read("bb;cc;a-");
    amiss.walk(0);
    due("19 one MOVE alone", amiss.turn(0), 1);
    due("19 the next", amiss.turn(1), 2);
    due("19 OPEN", amiss.turn(1), STATE);
    due("19 two were done", amiss.count(4), 2);
    due("19 no SIGNALS changed", amiss.count(5), 0);
  }

  // ---- promise 20

  private static void countBounds() {
    for (int what : new int[] {-1, 7, LOW, HIGH}) refused("20 OUTSIDE", OUTSIDE, ALL, x -> x.count(what));
    countsAre(fullPage(), 40, 0, 0, NONE, 0, 0, 0);
    countsAre(amiss(), 5, 2, 2, 1, 2, 0, 1);
    countsAre(good(), 4, 2, 4, 0, 2, 2, 1);
    countsAre(bare(), 6, 2, 4, 0, 2, 0, 1);
    countsAre(full(), 40, 2, 4, 0, 2, 10, 1);
    countsAre(read(FIVE), 0, 6, 4, NONE, 0, 0, 1);
    FlowCodes x = new FlowCodes();
    for (int i = 1; i <= 40; i++) {
      write(x, i % 2 == 0 ? "ab;ab" : "ba;ab").table();
      due("20 how often a TABLE was read", x.count(6), i);
      x.table();
      due("20 a refused one is not counted", x.count(6), i);
    }
  }

  private static void countsAre(FlowCodes x, int... counts) {
    for (int w = 0; w < 7; w++) due("20 count(" + w + ")", x.count(w), counts[w]);
  }

  /** "by THE CODE as it was then": one that changes between two turns. */
  private static void countChanges() {
    FlowCodes x = read("ab;ab");
    x.walk(0);
    x.turn(1);
    due("20 one SIGNAL", x.count(5), 1);
    x.put(1);
    due("20 a SIGNAL more changes nothing ahead", x.count(5), 1);
    x.turn(0);
    due("20 two SIGNALS", x.count(5), 3);
    x.put(3);
    x.put(0);
    x.turn(1);
    due("20 SIGNALS that are alike do not change", x.count(5), 5);
    x.clear();
    due("20 no CODE changes nothing ahead", x.count(5), 5);
    x.turn(0);
    due("20 no SIGNAL", x.count(5), 5);
    due("20 but done", x.count(4), 4);
    x.walk(0);
    due("20 anew", x.count(4) + x.count(5), 0);
  }

  // ---- promise 21

  /** "as longs, wrapping": the numbers by hand, then beside numbers that have no end. */
  private static void digestWraps() {
    due("21 new: 39887689714216145110558, wrapped", new FlowCodes().digest(), 5829026856094516766L);
    due("21 one letter: below 0", page(" ").digest(), -3767607316873447451L);
    due("21 forty letters", page(many(40, "~")).digest(), 429801839286455366L);
    FlowCodes x = new FlowCodes();
    List<Integer> ahead = list(STATE, STATE, STATE, STATE, STATE, STATE);
    for (int i = 1; i <= 40; i++) {
      int code = i % 2 == 0 ? 126 : 32;
      x.letter(code);
      ahead.add(code);
      List<Integer> all = new ArrayList<>(ahead);
      all.addAll(list(i, 0, 0, NONE, 0, 0, 0));
      due("21 with " + i + " letters", x.digest(), wrapped(all));
    }
  }

  /** What is mixed in for no TABLE, one that is not NORMAL, a CODE that is empty, not GOOD, GOOD, full. */
  private static void digestParts() {
    for (Supplier<FlowCodes> maker : ALL) {
      FlowCodes x = maker.get();
      due("21 as the calls tell", x.digest(), wrapped(told(x, lettersOf(maker))));
    }
    String[] texts = {"--;--", "aa;--", "--;bb", FIVE_OF_FIVE, "a-;b-;b-;a-"};
    for (String text : texts) due("21 of " + text, read(text).digest(), wrapped(told(read(text), "")));
    for (String text : texts) due("21 of " + text + " with no CODE", coded(text).digest(), wrapped(told(coded(text), "")));
    due("21 by hand: no MOVES", read("--;--").digest(), wrapped(list(NONE, NONE, NONE, NONE, 1, NONE, 0, 0, 1, 1, 2, 1,
        1, 2, NONE, NONE, NONE, NONE, 0, 1, 1, 1, 0, 0, NONE, 0, 0, 0, 0, 0, 0, 0, 0, 2, 2, NONE, 0, 0, 1)));
  }

  private static String lettersOf(Supplier<FlowCodes> maker) {
    // In the order of ALL.
    String[] pages = {"", many(40, "a"), "ab;ac", "ab;a", "ab;ab;", "ab;xb", many(40, "-"), ""};
    return pages[ALL.indexOf(maker)];
  }

  private static List<Integer> told(FlowCodes x, String letters) {
    List<Integer> all = new ArrayList<>();
    for (int s = 0; s < x.count(1); s++) for (int c = 0; c < x.count(2); c++) all.add(x.entry(s, c));
    if (x.count(1) > 0) for (int w = 0; w <= 4; w++) all.add(x.about(w));
    if (x.about(0) == 1) {
      for (int p = 0; p < x.about(4); p++) for (int w = 0; w <= 2; w++) all.add(x.parting(p, w));
      for (int i = NONE; i <= 4; i++) all.add(x.least(i));
      for (int s = 0; s < x.count(1); s++) all.add(x.code(s));
    }
    for (int w = 0; w <= 5; w++) all.add(x.coded(w));
    if (x.coded(1) == 1) for (int i = 0; i < x.coded(0); i++) {
      for (int w = 0; w <= 5; w++) all.add(x.logic(i, w));
      for (int p = 0; p < x.logic(i, 1); p++) for (int w = 0; w <= 1; w++) all.add(x.product(i, p, w));
    }
    for (char sign : letters.toCharArray()) all.add((int) sign);
    for (int w = 0; w <= 6; w++) all.add(x.count(w));
    return all;
  }

  private static void digestChangesNothing() {
    for (Supplier<FlowCodes> maker : ALL) {
      FlowCodes x = maker.get();
      long first = x.digest();
      due("21 twice the same", x.digest(), first);
      same("21 digest() changes nothing", x, maker.get());
    }
  }
}
