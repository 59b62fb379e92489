import java.util.Arrays;

/** The paragraph on refusals: which comes first, what it answers, and that it changes nothing. */
public final class RefusalsTest {
  private static final Check check = new Check("RefusalsTest");
  private static final int LEAST = Integer.MIN_VALUE;
  private static final int MOST = Integer.MAX_VALUE;
  private static final int BAD = SnowPaths.BAD, NOT = SnowPaths.NOT, FULL = SnowPaths.FULL;
  private static final int NULL = -11, INDEX = -12, CAST = -13, STORE = -14, SIZE = -15;

  private static final int BYTES = 0, SHORTS = 1, EMPTY = 2, LOST = 3;
  private static final int WALL = 10, CORNER = 0, OPEN = 27;

  public static void main(String[] args) {
    numbersOfRefusals();
    ofTheGreen();
    ofWalkers();
    ofWhatWouldBe();
    ofFallsAndPictures();
    ofSheets();
    twoAtOnceOfTheGreenAndWalkers();
    twoAtOnceOfPictures();
    twoAtOnceOfSheets();
    twoAtOnceOfCopies();
    check.end();
  }

  /** Something of everything: walls, hidden ones, snow, pressed, ice, walkers, sheets, a finding. */
  static SnowPaths rich(int walkers) {
    SnowPaths x = Check.green("........", "..#.o...", "....#...", "...o....", ".#......");
    x.snows(5);
    x.walker(0, 7);
    x.walker(63, 56);
    x.morning();
    x.freezes();
    x.morning();
    x.clear(9, 0);
    x.gone();
    for (int n = 0; n < walkers; n++) {
      x.walker(n * 3, 60 - n);
    }
    x.sheet(BYTES, 0, 64);
    x.write(BYTES);
    x.sheet(SHORTS, 1, 5);
    Check.fill(x, SHORTS, 1, 1, -2, 300, 4, -32768);
    x.sheet(EMPTY, 2, 0);
    return x;
  }

  /** All that can be seen of an object but the latest finding; the object is of no use behind it. */
  static long[] seen(SnowPaths x) {
    long[] out = new long[2 + 64 + 5 + 4];
    int at = 0;
    out[at++] = x.digest();
    out[at++] = x.count(7);
    for (int i = 0; i < 64; i++) {
      out[at++] = x.get(BYTES, 0, i);
    }
    for (int i = 0; i < 5; i++) {
      out[at++] = x.get(SHORTS, 1, i);
    }
    for (int s = 0; s < 4; s++) {
      out[at++] = x.lose(s);
    }
    return out;
  }

  /** With so many walkers the call is refused so, and nothing is other than had it not been made. */
  private static void refused(int walkers, long due, String name, int... args) {
    for (int before = 0; before <= 1; before++) {
      SnowPaths x = rich(walkers);
      SnowPaths untouched = rich(walkers);
      if (before == 1) {
        x.sheet(0, 0, -1);
      }
      String told = Calls.told(name, args) + " with " + walkers + " walkers";
      check.due(told, Calls.make(x, name, args), due);
      int finding = due <= NULL && due >= SIZE ? (int) (-10 - due) : before * 5;
      check.due(told + ", then count(8)", x.count(8), finding);
      check.due(told + " changes nothing", Arrays.equals(seen(x), seen(untouched)));
    }
  }

  /** As refused(), of get(), whose answer does not tell which finding it is. */
  private static void notGot(int finding, int s, int form, int i) {
    SnowPaths x = rich(3);
    SnowPaths untouched = rich(3);
    x.sheet(0, 0, -1);
    String told = Calls.told("get", s, form, i);
    check.due(told, x.get(s, form, i), LEAST);
    check.due(told + ", then count(8)", x.count(8), finding == 0 ? 5 : finding);
    check.due(told + " changes nothing", Arrays.equals(seen(x), seen(untouched)));
  }

  private static void numbersOfRefusals() {
    check.says("NONE = -1, BAD = -2, NOT = -3, FULL = -4");
    check.row("constants", new int[] {SnowPaths.NONE, BAD, NOT, FULL}, -1, -2, -3, -4);
    check.says("Where the answer is a long, a refusal -x is the least long and x more.");
    check.due("falls(2)", new SnowPaths().falls(2), -9223372036854775806L);
    check.due("left(9, 0)", new SnowPaths().left(9, 0), -9223372036854775806L);
  }

  private static void ofTheGreen() {
    check.says("They change nothing (FINDINGS but count() 8).");
    refused(3, BAD, "type", -1);
    refused(3, BAD, "type", 256);
    refused(3, BAD, "cell", 64, 0);
    refused(3, BAD, "cell", 0, 5);
    refused(3, BAD, "snows", -1);
    refused(3, BAD, "snows", 10);
    refused(3, BAD, "thaws", -1);
    refused(3, BAD, "thaws", 10);
    refused(3, BAD, "clear", 64, 0);
    refused(3, BAD, "clear", OPEN, 4);
    refused(3, NOT, "clear", WALL, 0);
    refused(3, NOT, "clear", 2, 2);
    refused(3, NOT, "clear", CORNER, 0);
    refused(3, NOT, "clear", CORNER, 3);
    refused(3, NOT, "clear", 63, 1);
    refused(3, NOT, "clear", 63, 2);
    refused(3, BAD, "read", 4);
    refused(3, NULL, "read", LOST);
  }

  private static void ofWalkers() {
    check.says("They change nothing (FINDINGS but count() 8).");
    refused(3, BAD, "walker", 64, 0);
    refused(3, BAD, "walker", 0, -1);
    refused(8, FULL, "walker", 0, 1);
    refused(3, BAD, "plan", -1, 0, 0);
    refused(3, BAD, "plan", 0, 64, 0);
    refused(3, BAD, "plan", 0, 1, -2);
    refused(3, BAD, "walk", 3);
    refused(3, BAD, "walk", -1);
    refused(0, BAD, "walk", 0);
  }

  private static void ofWhatWouldBe() {
    check.says("They change nothing (FINDINGS but count() 8).");
    refused(3, BAD, "all", 4);
    refused(3, BAD, "straight", 3);
    refused(3, BAD, "orders", 2);
    refused(6, FULL, "orders", 0);
    refused(8, FULL, "orders", 1);
    refused(3, BAD, "order", 3);
    refused(0, BAD, "order", 0);
    refused(6, FULL, "order", 0);
    refused(3, BAD, "first", 2);
    refused(0, NOT, "first", 0);
    refused(0, NOT, "first", 1);
    refused(3, BAD, "yard", 2);
  }

  private static void ofFallsAndPictures() {
    check.says("They change nothing (FINDINGS but count() 8).");
    refused(3, Check.LONG_BAD, "falls", 2);
    refused(3, BAD, "grit", 9, 0);
    refused(3, BAD, "grit", 8, -1);
    refused(3, Check.LONG_BAD, "left", 9, 0);
    refused(3, Check.LONG_BAD, "left", 0, 2);
    refused(3, BAD, "tower", 4, 0);
    refused(3, BAD, "tower", BYTES, 2);
    refused(3, NULL, "tower", LOST, 0);
    refused(6, FULL, "tower", BYTES, 0);
    refused(3, BAD, "towerOrder", 4, 0);
    refused(3, BAD, "towerOrder", BYTES, 3);
    refused(3, NULL, "towerOrder", LOST, 0);
    refused(6, FULL, "towerOrder", BYTES, 0);
    refused(3, BAD, "hints", 4, 0, 0);
    refused(3, BAD, "hints", BYTES, 3, 0);
    refused(3, BAD, "hints", BYTES, 0, 2);
    refused(3, NULL, "hints", LOST, 0, 0);
  }

  private static void ofSheets() {
    check.says("They change nothing (FINDINGS but count() 8).");
    refused(3, BAD, "sheet", 4, 0, 1);
    refused(3, BAD, "sheet", BYTES, 3, 1);
    refused(3, BAD, "sheet", BYTES, 0, 65);
    refused(3, SIZE, "sheet", SHORTS, 0, -1);
    refused(3, SIZE, "sheet", LOST, 0, LEAST);
    refused(3, BAD, "lose", 4);
    refused(3, NULL, "lose", LOST);
    refused(3, BAD, "lay", 4, 0, 0, 9);
    refused(3, BAD, "lay", BYTES, 3, 0, 9);
    refused(3, NULL, "lay", LOST, 0, 0, 9);
    refused(3, CAST, "lay", SHORTS, 0, 0, 9);
    refused(3, CAST, "lay", SHORTS, 2, 0, 9);
    refused(3, INDEX, "lay", SHORTS, 1, 5, 9);
    refused(3, INDEX, "lay", EMPTY, 2, 0, 9);
    notGot(0, 4, 0, 0);
    notGot(0, BYTES, 3, 0);
    notGot(1, LOST, 0, 0);
    notGot(3, SHORTS, 0, 0);
    notGot(2, SHORTS, 1, 5);
    notGot(2, EMPTY, 2, 0);
    refused(3, BAD, "copy", 4, 0, BYTES, 0, 1);
    refused(3, BAD, "copy", BYTES, 0, -1, 0, 1);
    refused(3, NULL, "copy", LOST, 0, BYTES, 0, 1);
    refused(3, NULL, "copy", BYTES, 0, LOST, 0, 1);
    refused(3, STORE, "copy", BYTES, 0, SHORTS, 0, 1);
    refused(3, INDEX, "copy", SHORTS, 0, SHORTS, 1, 5);
    refused(3, BAD, "write", 4);
    refused(3, NULL, "write", LOST);
    refused(3, BAD, "count", 9);
  }

  private static void twoAtOnceOfTheGreenAndWalkers() {
    check.says("Refusals, the first that fits, in the order told at each act");
    SnowPaths filled = new SnowPaths();
    for (int n = 0; n < 75; n++) {
      filled.type('.');
    }
    check.due("type(256) when full", filled.type(256), BAD);
    check.due("type(-1) when full", filled.type(-1), BAD);
    check.due("type(255) when full", filled.type(255), FULL);
    check.due("count(0) when full", filled.count(0), 75);
    refused(3, BAD, "clear", WALL, 4);
    refused(3, BAD, "clear", CORNER, -1);
    refused(3, BAD, "clear", 64, 1);
    refused(3, BAD, "clear", -8, 2);
    refused(8, BAD, "walker", 64, 0);
    refused(8, BAD, "walker", 0, 64);
    refused(8, BAD, "walker", -1, 0);
    refused(6, BAD, "orders", 2);
    refused(6, BAD, "orders", -1);
    refused(0, BAD, "first", 2);
    refused(0, BAD, "first", -1);
    check.says("BAD: also beyond; FULL, ahead of that.");
    refused(6, FULL, "order", 6);
    refused(6, FULL, "order", MOST);
    refused(8, FULL, "order", 8);
    refused(6, BAD, "order", -1);
    refused(8, BAD, "order", LEAST);
    refused(5, BAD, "order", 5);
  }

  private static void twoAtOnceOfPictures() {
    check.says("tower: BAD; NULL; FULL.");
    refused(6, BAD, "tower", LOST, 2);
    refused(6, BAD, "tower", BYTES, 2);
    refused(6, BAD, "tower", 4, 0);
    refused(3, BAD, "tower", LOST, 2);
    refused(6, NULL, "tower", LOST, 0);
    refused(8, NULL, "tower", LOST, 1);
    check.says("towerOrder: BAD: also beyond; NULL; FULL.");
    refused(6, BAD, "towerOrder", LOST, 6);
    refused(6, BAD, "towerOrder", BYTES, 6);
    refused(6, BAD, "towerOrder", BYTES, -1);
    refused(6, BAD, "towerOrder", 4, 0);
    refused(3, BAD, "towerOrder", LOST, 3);
    refused(0, BAD, "towerOrder", LOST, 0);
    refused(0, BAD, "towerOrder", BYTES, 0);
    refused(6, NULL, "towerOrder", LOST, 5);
    refused(6, FULL, "towerOrder", BYTES, 5);
    check.says("hints: BAD; NULL.");
    refused(3, BAD, "hints", LOST, 3, 0);
    refused(3, BAD, "hints", LOST, 0, 2);
    refused(0, BAD, "hints", LOST, 0, 0);
  }

  private static void twoAtOnceOfSheets() {
    check.says("sheet: BAD: SHEET, FORM, above 64; SIZE.");
    refused(3, BAD, "sheet", 4, 0, -1);
    refused(3, BAD, "sheet", -1, 0, LEAST);
    refused(3, BAD, "sheet", BYTES, 3, -1);
    refused(3, BAD, "sheet", BYTES, -1, -1);
    check.says("lay: BAD; NULL; CAST; INDEX.");
    refused(3, BAD, "lay", LOST, 3, 0, 9);
    refused(3, BAD, "lay", SHORTS, 3, 9, 9);
    refused(3, BAD, "lay", 4, 3, 9, 9);
    refused(3, NULL, "lay", LOST, 0, 64, 9);
    refused(3, NULL, "lay", LOST, 0, -1, 9);
    refused(3, CAST, "lay", SHORTS, 0, 5, 9);
    refused(3, CAST, "lay", SHORTS, 2, -1, 9);
    refused(3, CAST, "lay", EMPTY, 0, 0, 9);
    check.says("get: BAD: the least int; so are NULL, CAST, INDEX (count() 8 tells).");
    notGot(0, LOST, 3, 0);
    notGot(0, LOST, -1, 0);
    notGot(0, 4, 0, 99);
    notGot(0, SHORTS, 3, 9);
    notGot(1, LOST, 0, 64);
    notGot(1, LOST, 2, -1);
    notGot(3, SHORTS, 0, 5);
    notGot(3, SHORTS, 2, -1);
    notGot(3, EMPTY, 1, 0);
  }

  private static void twoAtOnceOfCopies() {
    check.says("copy: BAD: the SHEETS; NULL: s, t; STORE; INDEX: below 0, not so many.");
    refused(3, BAD, "copy", 4, 0, LOST, 0, 1);
    refused(3, BAD, "copy", LOST, 0, 4, 0, 1);
    refused(3, BAD, "copy", 4, -1, 4, -1, -1);
    refused(3, BAD, "copy", SHORTS, 9, -1, 0, 1);
    refused(3, NULL, "copy", LOST, -1, BYTES, 0, 1);
    refused(3, NULL, "copy", LOST, 0, SHORTS, 9, 1);
    refused(3, NULL, "copy", SHORTS, 9, LOST, 0, 1);
    refused(3, NULL, "copy", SHORTS, 0, LOST, 0, -1);
    refused(3, NULL, "copy", LOST, 0, LOST, 0, 0);
    refused(3, STORE, "copy", SHORTS, 9, BYTES, 0, 1);
    refused(3, STORE, "copy", SHORTS, 0, BYTES, 0, 64);
    refused(3, STORE, "copy", SHORTS, 0, EMPTY, 0, 0);
    refused(3, STORE, "copy", EMPTY, -1, BYTES, 0, -1);
  }
}
