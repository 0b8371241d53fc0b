/** Each promise of the document by hand: ordinary inputs, the edges that it names, wrong inputs. */
public final class PromisesTest {
  private static final int NONE = -1, UNKNOWN = -1001, OUTSIDE = -1002, STATE = -1003, FULL = -1004;
  private static final int[] FAR = {Integer.MIN_VALUE, Integer.MAX_VALUE, -7, 1 << 20};
  private static int wrong = 0;

  private static void due(String what, long got, long want) {
    if (got != want) { wrong++; System.out.println(what + " answered " + got + ", due is " + want); }
  }

  private static void write(FlowCodes x, String text) {
    for (char sign : text.toCharArray()) x.letter(sign);
  }

  private static FlowCodes read(String text) {
    FlowCodes x = new FlowCodes();
    write(x, text);
    due("table() of " + text, x.table(), text.split(";").length);
    return x;
  }

  private static long mix(int... numbers) {
    long h = 1667L;
    for (int number : numbers) h = 31L * h + number;
    return h;
  }

  public static void main(String[] args) {
    constants(); newObject(); letters(); blanks(); faults(); tables(); entries(); abouts(); partings(); leasts();
    puts(); clears(); codes(); codeds(); wanteds(); logics(); products(); wides(); walks(); turns(); counts();
    digests(); refusalsChangeNothing(); farNumbers();
    System.out.println(wrong == 0 ? "all promises hold" : wrong + " answers are not as promised");
    if (wrong != 0) System.exit(1);
  }

  private static void constants() {
    due("NONE", FlowCodes.NONE, NONE);
    due("UNKNOWN", FlowCodes.UNKNOWN, UNKNOWN);
    due("OUTSIDE", FlowCodes.OUTSIDE, OUTSIDE);
    due("STATE", FlowCodes.STATE, STATE);
    due("FULL", FlowCodes.FULL, FULL);
  }

  // Promise 1
  private static void newObject() {
    FlowCodes x = new FlowCodes();
    int[] counts = {0, 0, 0, NONE, 0, 0, 0};
    for (int w = 0; w < 7; w++) due("1 count(" + w + ")", x.count(w), counts[w]);
    due("1 about", x.about(0), STATE);
    due("1 parting", x.parting(0, 0), STATE);
    due("1 least", x.least(NONE), STATE);
    due("1 put", x.put(0), STATE);
    due("1 clear", x.clear(), STATE);
    due("1 coded", x.coded(0), STATE);
    due("1 wanted", x.wanted(0, 0), STATE);
    due("1 logic", x.logic(0, 0), STATE);
    due("1 product", x.product(0, 0, 0), STATE);
    due("1 wide", x.wide(0, 0, 0), STATE);
    due("1 entry", x.entry(0, 0), UNKNOWN);
    due("1 code", x.code(0), UNKNOWN);
    due("1 walk", x.walk(0), UNKNOWN);
    due("1 turn", x.turn(0), UNKNOWN);
    due("1 fault", x.fault(), 0);
    due("1 table", x.table(), STATE);
    due("1 blank", x.blank(), 0);
  }

  // Promise 2
  private static void letters() {
    FlowCodes x = new FlowCodes();
    due("2 below", x.letter(31), OUTSIDE);
    due("2 above", x.letter(127), OUTSIDE);
    due("2 least", x.letter(32), 1);
    due("2 most", x.letter(126), 2);
    for (int i = 3; i <= 40; i++) due("2 letter", x.letter('a'), i);
    due("2 full", x.letter('a'), FULL);
    due("2 outside ahead of full", x.letter(7), OUTSIDE);
    due("2 still 40", x.count(0), 40);
    due("2 blank", x.blank(), 40);
    due("2 room again", x.letter('a'), 1);
  }

  // Promise 3
  private static void blanks() {
    FlowCodes x = read("ab;ab");
    write(x, "abc");
    due("3 had", x.blank(), 3);
    due("3 empty", x.blank(), 0);
    due("3 count", x.count(0), 0);
    due("3 the TABLE stays", x.count(1), 2);
  }

  // Promise 4
  private static void faults() {
    String[] texts = {"", "a", "g", "A", ";", "a;", "ab;", "ab;;", "ab;a;", "ab;abc", "abcde", "abcd;abcde", "ff;ff",
        "aa;aa;aa;aa;aa;aa", "aa;aa;aa;aa;aa;aa;", "aa;aa;aa;aa;aa;aaa", "--;--", "a b", "abcd;abc;", "-;"};
    int[] places = {0, 1, 0, 0, 0, 1, 3, 3, 4, 5, 4, 9, 5, 17, 17, 17, 5, 1, 8, 1};
    for (int i = 0; i < texts.length; i++) {
      FlowCodes x = new FlowCodes();
      write(x, texts[i]);
      due("4 fault of " + texts[i], x.fault(), places[i]);
      due("4 the page stays", x.count(0), texts[i].length());
    }
  }

  // Promise 5
  private static void tables() {
    String[] none = {"", "a", "ab", "ab;", "ab;a", "ab;ab;", "ab;ac", "cb;ab", "a;b", "abcde;abcde", "ab;abc", "ab;xb",
        "aa;aa;aa;aa;aa;aa;aa", "ff;ff"};
    for (String text : none) {
      FlowCodes x = read("abc;abc;abc");
      x.walk(1);
      x.turn(2);
      write(x, text);
      due("5 table of " + text, x.table(), STATE);
      due("5 the page stays", x.count(0), text.length());
      due("5 the TABLE stays", x.count(2), 3);
      due("5 the walk stays", x.count(3), 2);
      due("5 turns stay", x.count(4), 1);
      due("5 not read", x.count(6), 1);
    }
    FlowCodes x = read("ab;ab");
    x.put(3);
    x.walk(0);
    x.turn(1);
    write(x, "abcd;abcd;abcd;abcd;eeee;ffff");
    due("5 the greatest", x.table(), 6);
    due("5 the page is empty", x.count(0), 0);
    due("5 columns", x.count(2), 4);
    due("5 one walks at none", x.count(3), NONE);
    due("5 no turns", x.count(4), 0);
    due("5 no changes", x.count(5), 0);
    due("5 read twice", x.count(6), 2);
    due("5 its own code", x.coded(0), x.least(NONE));
    write(x, "ba;ab");
    due("5 not NORMAL is a TABLE, too", x.table(), 2);
    due("5 no turn at none", x.turn(0), STATE);
  }

  // Promise 6
  private static void entries() {
    FlowCodes x = read("a-c;-b-;ca-");
    int[][] all = {{0, NONE, 2}, {NONE, 1, NONE}, {2, 0, NONE}};
    for (int s = 0; s < 3; s++) for (int c = 0; c < 3; c++) due("6 entry", x.entry(s, c), all[s][c]);
    due("6 state", x.entry(3, 0), UNKNOWN);
    due("6 column", x.entry(0, 3), UNKNOWN);
    due("6 state -1", x.entry(-1, 0), UNKNOWN);
    due("6 column -1", x.entry(0, -1), UNKNOWN);
  }

  // Promise 7
  private static void abouts() {
    aboutIs("ab;ab", 1, NONE, 4, 2, 1);
    aboutIs("ba;ab", 0, 0, 4, 2, NONE);
    aboutIs("aa;ba;ac", 1, NONE, 6, 4, 2);
    aboutIs("ab;ab;ca", 0, 9, 6, 3, NONE);
    aboutIs("--;--", 1, NONE, 0, 0, 1);
    aboutIs("ab;--", 0, 1, 2, 1, NONE);
    aboutIs("abc;abc;abc", 1, NONE, 9, 3, 3);
    FlowCodes none = new FlowCodes();
    due("7 outside ahead of state", none.about(5), OUTSIDE);
    due("7 outside below", none.about(-1), OUTSIDE);
    due("7 state", none.about(4), STATE);
    due("7 outside", read("ab;ab").about(5), OUTSIDE);
  }

  private static void aboutIs(String text, int... answers) {
    FlowCodes x = read(text);
    for (int w = 0; w < 5; w++) due("7 about(" + w + ") of " + text, x.about(w), answers[w]);
  }

  // Promise 8
  private static void partings() {
    // Moves of column 0: a a, b a, c c, d c; of column 1: all stable.
    FlowCodes x = read("aa;ab;cc;cd");
    int[][] all = {{1, 2}, {3, 12}, {4, 8}};
    due("8 how many", x.about(4), 3);
    for (int p = 0; p < 3; p++) {
      due("8 one set", x.parting(p, 0), all[p][0]);
      due("8 other set", x.parting(p, 1), all[p][1]);
      due("8 kept", x.parting(p, 2), 1);
    }
    due("8 unknown", x.parting(3, 0), UNKNOWN);
    due("8 unknown below", x.parting(-1, 0), UNKNOWN);
    due("8 outside", x.parting(0, 3), OUTSIDE);
    due("8 outside ahead of unknown", x.parting(9, -1), OUTSIDE);
    x.clear();
    due("8 no code", x.parting(1, 2), 0);
    x.put(12);
    x.put(3);
    x.put(8);
    due("8 kept both ways round", x.parting(1, 2), 2);
    due("8 kept by one", x.parting(2, 2), 1);
    due("8 kept by none", x.parting(0, 2), 0);
    FlowCodes amiss = read("ba;ab");
    due("8 state ahead of unknown", amiss.parting(99, 0), STATE);
    due("8 outside ahead of state", amiss.parting(0, 3), OUTSIDE);
  }

  // Promise 9
  private static void leasts() {
    leastIs("ab;ab", 2);
    leastIs("abc;abc;abc", 2, 4);
    // PARTINGS a|b, ab|cd, c|d: 6 keeps the first and the last, 12 the middle one.
    leastIs("aa;ab;cc;cd", 6, 12);
    // Four STATES at most are alike in a SIGNAL, so the first has two; "adef" are halved by 24, then by 42.
    leastIs("--;--;--;--;--;--", 6, 24, 42);
    // As shared/tests tell it.
    leastIs("aacf;bbcf;aece;dbdf;dede;dbcf", 22, 24, 42);
    FlowCodes x = read("ab;ab");
    due("9 outside", x.least(5), OUTSIDE);
    due("9 outside below", x.least(-2), OUTSIDE);
    x.clear();
    x.put(1);
    due("9 another code does not matter", x.least(0), 2);
    FlowCodes amiss = read("ba;ab");
    due("9 state", amiss.least(0), STATE);
    due("9 outside ahead of state", amiss.least(5), OUTSIDE);
  }

  private static void leastIs(String text, int... signals) {
    FlowCodes x = read(text);
    due("9 size for " + text, x.least(NONE), signals.length);
    for (int i = 0; i < 5; i++) due("9 least(" + i + ") of " + text, x.least(i), i < signals.length ? signals[i] : NONE);
  }

  // Promise 10
  private static void puts() {
    FlowCodes x = read("abc;abc;abc");
    due("10 behind the least code", x.put(7), 3);
    due("10 no signal of other states", x.put(8), OUTSIDE);
    due("10 below", x.put(-1), OUTSIDE);
    due("10 nothing", x.put(0), 4);
    due("10 with a", x.put(1), 5);
    due("10 code of a", x.code(0), 4 + 16);
    due("10 code of b", x.code(1), 1 + 4);
    due("10 full", x.put(1), FULL);
    due("10 outside ahead of full", x.put(8), OUTSIDE);
    due("10 five", x.coded(0), 5);
    FlowCodes amiss = read("ba;ab");
    due("10 state ahead of outside", amiss.put(99), STATE);
  }

  // Promise 11
  private static void clears() {
    FlowCodes x = read("abc;abc;abc");
    due("11 had", x.clear(), 2);
    due("11 has none", x.clear(), 0);
    due("11 size", x.coded(0), 0);
    due("11 not good", x.coded(1), 0);
    due("11 put again", x.put(6), 1);
    due("11 code", x.code(1), 1);
    due("11 state", read("ba;ab").clear(), STATE);
  }

  // Promise 12
  private static void codes() {
    FlowCodes x = read("aa;ab;cc;cd");
    int[] codes = {0, 1, 3, 2};
    for (int s = 0; s < 4; s++) due("12 code", x.code(s), codes[s]);
    due("12 unknown", x.code(4), UNKNOWN);
    due("12 unknown below", x.code(-1), UNKNOWN);
    x.clear();
    for (int s = 0; s < 4; s++) due("12 empty", x.code(s), 0);
    FlowCodes amiss = read("ba;ab");
    due("12 state", amiss.code(1), STATE);
    due("12 unknown ahead of state", amiss.code(2), UNKNOWN);
  }

  // Promise 13
  private static void codeds() {
    FlowCodes x = read("aa;ab;cc;cd");
    codedIs(x, 2, 1, 0, 0, NONE, 1);
    x.clear();
    // No SIGNAL: all is at one place, and every move of a column with two aims is WILD.
    codedIs(x, 0, 0, 3, 8, 0, 0);
    // a 00, b 11, c 01, d 10: the way from b to a has all codes, and so has that from d to c.
    x.put(2 + 4);
    x.put(2 + 8);
    codedIs(x, 2, 0, 1, 4, 0, 2);
    due("13 outside", x.coded(6), OUTSIDE);
    FlowCodes amiss = read("ba;ab");
    due("13 state", amiss.coded(5), STATE);
    due("13 outside ahead of state", amiss.coded(6), OUTSIDE);
    codedIs(read("--;--"), 1, 1, 0, 0, NONE, 0);
    // Column 0 is quiet, so the first WILD move is not the first one.
    FlowCodes late = read("aa;ab;-c;-c");
    late.clear();
    due("13 first", late.coded(4), 1);
    due("13 wild", late.coded(3), 4);
  }

  private static void codedIs(FlowCodes x, int... answers) {
    for (int w = 0; w < 6; w++) due("13 coded(" + w + ")", x.coded(w), answers[w]);
  }

  // Promise 14
  private static void wanteds() {
    wantedIs(read("abaa;abbb"), 0, "01000111");
    wantedIs(read("ab;ab"), 0, "01--01--");
    wantedIs(read("abc;abc;abc"), 0, "010-010-010--10-");
    wantedIs(read("abc;abc;abc"), 1, "001-001-001--01-");
    FlowCodes x = read("ab;ab");
    due("14 signal", x.wanted(1, 0), UNKNOWN);
    due("14 signal below", x.wanted(-1, 0), UNKNOWN);
    due("14 point", x.wanted(0, 8), UNKNOWN);
    due("14 point below", x.wanted(0, -1), UNKNOWN);
    x.put(0);
    due("14 a point more", x.wanted(0, 15), NONE);
    due("14 a signal more", x.wanted(1, 5), 0);
    x.clear();
    due("14 not good", x.wanted(0, 0), STATE);
    due("14 state ahead of unknown", x.wanted(9, 99), STATE);
    due("14 not normal", read("ba;ab").wanted(0, 0), STATE);
  }

  private static void wantedIs(FlowCodes x, int signal, String all) {
    for (int p = 0; p < all.length(); p++)
      due("14 wanted(" + signal + ", " + p + ")", x.wanted(signal, p), all.charAt(p) == '-' ? NONE : all.charAt(p) - '0');
  }

  // Promise 15
  private static void logics() {
    logicIs(read("abaa;abbb"), 0, 3, 3, 1, 6, 4, 4);
    logicIs(read("ab;ab"), 0, 1, 1, 0, 1, 2, 2);
    logicIs(read("--;--"), 0, 0, 0, 0, 0, 0, 0);
    // Nothing is WANTED as 0: one PRODUCT that asks nothing.
    logicIs(read("--;bb"), 0, 1, 1, 0, 0, 2, 0);
    logicIs(read("aa;--"), 0, 0, 0, 0, 0, 0, 2);
    FlowCodes x = read("ab;ab");
    due("15 outside", x.logic(0, 6), OUTSIDE);
    due("15 outside below", x.logic(0, -1), OUTSIDE);
    due("15 unknown ahead of outside", x.logic(1, 6), UNKNOWN);
    x.clear();
    due("15 state ahead of all", x.logic(1, 6), STATE);
    x.put(1);
    logicIs(x, 0, 1, 1, 0, 1, 2, 2);
    due("15 the other way round", x.product(0, 0, 1), 0);
  }

  private static void logicIs(FlowCodes x, int signal, int... answers) {
    for (int w = 0; w < 6; w++) due("15 logic(" + signal + ", " + w + ")", x.logic(signal, w), answers[w]);
  }

  // Promise 16
  private static void products() {
    FlowCodes x = read("abaa;abbb");
    int[][] all = {{3, 1}, {6, 6}, {5, 5}};
    for (int p = 0; p < 3; p++) for (int w = 0; w < 2; w++) due("16 product", x.product(0, p, w), all[p][w]);
    due("16 product unknown", x.product(0, 3, 0), UNKNOWN);
    due("16 below", x.product(0, -1, 0), UNKNOWN);
    due("16 signal unknown", x.product(1, 0, 0), UNKNOWN);
    due("16 outside", x.product(0, 0, 2), OUTSIDE);
    due("16 unknown ahead of outside", x.product(0, 3, 2), UNKNOWN);
    FlowCodes all1 = read("--;bb");
    due("16 asks nothing", all1.product(0, 0, 0), 0);
    x.clear();
    due("16 state ahead of all", x.product(7, 7, 7), STATE);
  }

  // Promise 17
  private static void wides() {
    FlowCodes x = read("abaa;abbb");
    int[][] all = {{3, 1}, {5, 5}, {6, 6}};
    for (int p = 0; p < 3; p++) for (int w = 0; w < 2; w++) due("17 wide", x.wide(0, p, w), all[p][w]);
    due("17 unknown", x.wide(0, 3, 0), UNKNOWN);
    due("17 below", x.wide(0, -1, 0), UNKNOWN);
    due("17 signal unknown", x.wide(1, 0, 0), UNKNOWN);
    due("17 outside", x.wide(0, 0, -1), OUTSIDE);
    due("17 unknown ahead of outside", x.wide(0, 3, 2), UNKNOWN);
    // A column that is not there is FREE: 2/2 has points of column 3.
    FlowCodes free = read("abc;abc;abc");
    int[][] wide = {{2, 2}, {13, 12}};
    for (int p = 0; p < 2; p++) for (int w = 0; w < 2; w++) due("17 free", free.wide(1, p, w), wide[p][w]);
    x.clear();
    due("17 state ahead of all", x.wide(7, 7, 7), STATE);
  }

  // Promise 18
  private static void walks() {
    FlowCodes x = read("ab;ab");
    due("18 none ahead", x.walk(1), NONE);
    due("18 ahead", x.walk(0), 1);
    x.turn(1);
    due("18 behind a turn", x.walk(0), 1);
    due("18 turns anew", x.count(4), 0);
    due("18 changes anew", x.count(5), 0);
    due("18 unknown", x.walk(2), UNKNOWN);
    due("18 unknown below", x.walk(-1), UNKNOWN);
    due("18 stays", x.count(3), 0);
    due("18 a table that is not normal", read("ba;ab").walk(1), NONE);
  }

  // Promise 19
  private static void turns() {
    FlowCodes x = read("ab-;ab-");
    due("19 at none", x.turn(0), STATE);
    due("19 unknown ahead of state", x.turn(3), UNKNOWN);
    x.walk(0);
    due("19 goes", x.turn(1), 1);
    due("19 stays", x.turn(1), 1);
    due("19 open", x.turn(2), STATE);
    due("19 below", x.turn(-1), UNKNOWN);
    due("19 at", x.count(3), 1);
    due("19 turns done", x.count(4), 2);
    due("19 changes", x.count(5), 1);
    FlowCodes amiss = read("bb;cc;aa");
    amiss.walk(0);
    due("19 one step alone", amiss.turn(0), 1);
    due("19 and the next", amiss.turn(0), 2);
    due("19 no changes", amiss.count(5), 0);
  }

  // Promise 20
  private static void counts() {
    FlowCodes x = read("ab;ab");
    write(x, "xyz");
    x.walk(0);
    x.turn(1);
    x.put(2);
    x.turn(0);
    x.clear();
    x.turn(1);
    int[] counts = {3, 2, 2, 1, 3, 3, 1};
    for (int w = 0; w < 7; w++) due("20 count(" + w + ")", x.count(w), counts[w]);
    due("20 outside", x.count(7), OUTSIDE);
    due("20 below", x.count(-1), OUTSIDE);
  }

  // Promise 21
  private static void digests() {
    FlowCodes none = new FlowCodes();
    due("21 new", none.digest(), mix(STATE, STATE, STATE, STATE, STATE, STATE, 0, 0, 0, NONE, 0, 0, 0));
    FlowCodes amiss = read("ba;-b");
    due("21 not normal", amiss.digest(), mix(1, 0, NONE, 1, 0, 0, 3, 2, NONE,
        STATE, STATE, STATE, STATE, STATE, STATE, 0, 2, 2, NONE, 0, 0, 1));
    FlowCodes x = read("ab;ab");
    x.walk(0);
    write(x, "a;");
    due("21 good", x.digest(), mix(0, 1, 0, 1, 1, NONE, 4, 2, 1, 1, 2, 1, 1, 2, NONE, NONE, NONE, NONE, 0, 1,
        1, 1, 0, 0, NONE, 1, 1, 1, 0, 1, 2, 2, 1, 1, 'a', ';', 2, 2, 2, 0, 0, 0, 1));
    x.put(1);
    due("21 two signals", x.digest(), mix(0, 1, 0, 1, 1, NONE, 4, 2, 1, 1, 2, 2, 1, 2, NONE, NONE, NONE, NONE, 2, 1,
        2, 1, 0, 0, NONE, 2, 1, 1, 0, 1, 4, 4, 1, 1, 1, 1, 0, 1, 4, 4, 1, 0, 'a', ';', 2, 2, 2, 0, 0, 0, 1));
    x.clear();
    due("21 not good", x.digest(), mix(0, 1, 0, 1, 1, NONE, 4, 2, 1, 1, 2, 0, 1, 2, NONE, NONE, NONE, NONE, 0, 0,
        0, 0, 1, 0, NONE, 0, 'a', ';', 2, 2, 2, 0, 0, 0, 1));
  }

  private static void refusalsChangeNothing() {
    FlowCodes x = read("abaa;abbb");
    for (int i = 0; i < 4; i++) x.put(i);
    write(x, "ab;ac");
    x.walk(0);
    x.turn(1);
    long before = x.digest();
    x.letter(0); x.table(); x.entry(9, 9); x.about(9); x.parting(9, 9); x.parting(9, 0); x.least(9); x.put(64); x.put(1);
    x.code(9); x.coded(9); x.wanted(9, 0); x.wanted(0, 999); x.logic(9, 0); x.logic(0, 9); x.product(0, 999, 0);
    x.wide(0, 999, 0); x.walk(9); x.turn(9); x.count(9);
    due("refusals change nothing", x.digest(), before);
  }

  /** No number makes the machine throw, with no TABLE, with one that is amiss, with one that is good. */
  private static void farNumbers() {
    FlowCodes[] all = {new FlowCodes(), read("ba;ab"), read("aacf;bbcf;aece;dbdf;dede;dbcf")};
    for (FlowCodes x : all) {
      long before = x.digest();
      for (int far : FAR) {
        due("far letter", x.letter(far), OUTSIDE);
        due("far about", x.about(far), OUTSIDE);
        due("far count", x.count(far), OUTSIDE);
        due("far least", x.least(far), OUTSIDE);
        due("far coded", x.coded(far), OUTSIDE);
        due("far parting", x.parting(far, far), OUTSIDE);
        due("far entry", x.entry(far, 0), UNKNOWN);
        due("far column", x.entry(0, far), UNKNOWN);
        due("far code", x.code(far), UNKNOWN);
        due("far walk", x.walk(far), UNKNOWN);
        due("far turn", x.turn(far), UNKNOWN);
        boolean good = x == all[2];
        due("far put", x.put(far), good ? OUTSIDE : STATE);
        due("far wanted", x.wanted(far, far), good ? UNKNOWN : STATE);
        due("far point", x.wanted(0, far), good ? UNKNOWN : STATE);
        due("far logic", x.logic(0, far), good ? OUTSIDE : STATE);
        due("far product", x.product(0, far, far), good ? UNKNOWN : STATE);
        due("far wide", x.wide(0, far, far), good ? UNKNOWN : STATE);
        due("far what", x.wide(0, 0, far), good ? OUTSIDE : STATE);
      }
      due("far numbers change nothing", x.digest(), before);
    }
  }
}
