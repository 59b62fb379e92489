/** Promises 29 to 36: sheets, counts, the digest. */
public final class SheetsTest {
  private static final Check check = new Check("SheetsTest");
  private static final int LEAST = Integer.MIN_VALUE;

  public static void main(String[] args) {
    sheet();
    lose();
    lay();
    layRefuses();
    get();
    copy();
    copyRefuses();
    write();
    writeRefuses();
    count();
    digest();
    check.end();
  }

  private static void sheet() {
    SnowPaths x = new SnowPaths();
    check.due("sheet(0, 0, 0)", x.sheet(0, 0, 0), 0);
    check.due("sheet(3, 2, 64)", x.sheet(3, 2, 64), 64);
    check.row("its items", Check.items(x, 3, 2, 64), new int[64]);
    x.lay(3, 2, 5, 7);
    check.due("sheet(3, 1, 6), a new one", x.sheet(3, 1, 6), 6);
    check.row("its items", Check.items(x, 3, 1, 6), 0, 0, 0, 0, 0, 0);
    check.due("sheet(-1, 0, 1)", x.sheet(-1, 0, 1), SnowPaths.BAD);
    check.due("sheet(4, 0, 1)", x.sheet(4, 0, 1), SnowPaths.BAD);
    check.due("sheet(0, -1, 1)", x.sheet(0, -1, 1), SnowPaths.BAD);
    check.due("sheet(0, 3, 1)", x.sheet(0, 3, 1), SnowPaths.BAD);
    check.due("sheet(0, 0, 65)", x.sheet(0, 0, 65), SnowPaths.BAD);
    check.due("sheet(4, 0, -1), bad ahead of size", x.sheet(4, 0, -1), SnowPaths.BAD);
    check.due("sheet(0, 3, -1), bad ahead of size", x.sheet(0, 3, -1), SnowPaths.BAD);
    check.due("no finding yet", x.count(8), 0);
    check.due("sheet(3, 0, -1)", x.sheet(3, 0, -1), -15);
    check.due("the finding", x.count(8), 5);
    check.due("sheet(3, 0, MIN)", x.sheet(3, 0, LEAST), -15);
    check.due("sheet(3, 0, MAX)", x.sheet(3, 0, Integer.MAX_VALUE), SnowPaths.BAD);
    for (int wild : Check.WILD) {
      check.due("sheet(" + wild + ", 0, 1)", x.sheet(wild, 0, 1), SnowPaths.BAD);
      check.due("sheet(0, " + wild + ", 1)", x.sheet(0, wild, 1), SnowPaths.BAD);
    }
    check.due("what was there stays", x.get(3, 1, 5), 0);
    check.due("and has as many items", x.lose(3), 6);
  }

  private static void lose() {
    SnowPaths x = new SnowPaths();
    x.sheet(1, 1, 9);
    x.sheet(2, 1, 0);
    check.due("lose(1)", x.lose(1), 9);
    check.due("lose(2) of no items", x.lose(2), 0);
    check.due("no finding yet", x.count(8), 0);
    check.due("lose(1) again", x.lose(1), -11);
    check.due("the finding", x.count(8), 1);
    check.due("lose(-1)", x.lose(-1), SnowPaths.BAD);
    check.due("lose(4)", x.lose(4), SnowPaths.BAD);
    for (int wild : Check.WILD) {
      check.due("lose(" + wild + ")", x.lose(wild), SnowPaths.BAD);
    }
    check.due("lay(1, 1, 0, 1) of a lost one", x.lay(1, 1, 0, 1), -11);
  }

  private static void lay() {
    SnowPaths x = new SnowPaths();
    x.sheet(0, 0, 3);
    x.sheet(1, 1, 3);
    x.sheet(2, 2, 64);
    int[] values = {127, 128, 255, 256, -129, 32767, 32768, 65535, 65536, LEAST, Integer.MAX_VALUE, -1};
    int[] bytes = {127, -128, -1, 0, 127, -1, 0, -1, 0, 0, -1, -1};
    int[] shorts = {127, 128, 255, 256, -129, 32767, -32768, -1, 0, 0, -1, -1};
    for (int n = 0; n < values.length; n++) {
      check.due("lay a byte " + values[n], x.lay(0, 0, 1, values[n]), 1);
      check.due("the byte of " + values[n], x.get(0, 0, 1), bytes[n]);
      check.due("lay a short " + values[n], x.lay(1, 1, 2, values[n]), 1);
      check.due("the short of " + values[n], x.get(1, 1, 2), shorts[n]);
      check.due("lay an int " + values[n], x.lay(2, 2, 63, values[n]), 1);
      check.due("the int of " + values[n], x.get(2, 2, 63), values[n]);
    }
    check.row("bytes beside it", new int[] {x.get(0, 0, 0), x.get(0, 0, 2)}, 0, 0);
  }

  private static void layRefuses() {
    SnowPaths x = new SnowPaths();
    x.sheet(0, 0, 3);
    check.due("lay(-1, 0, 0, 1)", x.lay(-1, 0, 0, 1), SnowPaths.BAD);
    check.due("lay(4, 0, 0, 1)", x.lay(4, 0, 0, 1), SnowPaths.BAD);
    check.due("lay(0, -1, 0, 1)", x.lay(0, -1, 0, 1), SnowPaths.BAD);
    check.due("lay(0, 3, 0, 1)", x.lay(0, 3, 0, 1), SnowPaths.BAD);
    check.due("lay(1, 3, 0, 1), bad ahead of null", x.lay(1, 3, 0, 1), SnowPaths.BAD);
    for (int wild : Check.WILD) {
      check.due("lay(" + wild + ", 0, 0, 1)", x.lay(wild, 0, 0, 1), SnowPaths.BAD);
      check.due("lay(0, " + wild + ", 0, 1)", x.lay(0, wild, 0, 1), SnowPaths.BAD);
    }
    check.due("no finding yet", x.count(8), 0);
    check.due("lay(0, 1, 9, 1), cast ahead of index", x.lay(0, 1, 9, 1), -13);
    check.due("the finding", x.count(8), 3);
    check.due("lay(1, 1, 9, 1), null ahead of cast", x.lay(1, 1, 9, 1), -11);
    check.due("the finding", x.count(8), 1);
    check.due("lay(0, 0, 3, 1)", x.lay(0, 0, 3, 1), -12);
    check.due("the finding", x.count(8), 2);
    check.due("lay(0, 0, -1, 1)", x.lay(0, 0, -1, 1), -12);
    for (int wild : Check.WILD) {
      check.due("lay(0, 0, " + wild + ", 1)", x.lay(0, 0, wild, 1), -12);
    }
    check.row("nothing laid", Check.items(x, 0, 0, 3), 0, 0, 0);
    check.due("lay(0, 0, 2, 1)", x.lay(0, 0, 2, 1), 1);
    check.due("the finding is the latest", x.count(8), 2);
  }

  private static void get() {
    SnowPaths x = new SnowPaths();
    x.sheet(0, 2, 3);
    x.lay(0, 2, 2, 77);
    check.due("get(0, 2, 2)", x.get(0, 2, 2), 77);
    check.due("get(-1, 2, 0)", x.get(-1, 2, 0), LEAST);
    check.due("get(4, 2, 0)", x.get(4, 2, 0), LEAST);
    check.due("get(0, -1, 0)", x.get(0, -1, 0), LEAST);
    check.due("get(0, 3, 0)", x.get(0, 3, 0), LEAST);
    for (int wild : Check.WILD) {
      check.due("get(" + wild + ", 2, 0)", x.get(wild, 2, 0), LEAST);
      check.due("get(0, " + wild + ", 0)", x.get(0, wild, 0), LEAST);
    }
    check.due("no finding by bad ones", x.count(8), 0);
    check.due("get(1, 2, 0)", x.get(1, 2, 0), LEAST);
    check.due("null", x.count(8), 1);
    check.due("get(0, 1, 5)", x.get(0, 1, 5), LEAST);
    check.due("cast ahead of index", x.count(8), 3);
    check.due("get(0, 2, 3)", x.get(0, 2, 3), LEAST);
    check.due("index", x.count(8), 2);
    x.get(0, 1, 0);
    check.due("get(0, 2, -1)", x.get(0, 2, -1), LEAST);
    check.due("index below", x.count(8), 2);
    for (int wild : Check.WILD) {
      check.due("get(0, 2, " + wild + ")", x.get(0, 2, wild), LEAST);
    }
  }

  private static void copy() {
    SnowPaths x = new SnowPaths();
    x.sheet(0, 1, 5);
    x.sheet(1, 1, 3);
    Check.fill(x, 0, 1, 1, 2, 3, 4, 5);
    check.due("copy(0, 2, 1, 1, 2)", x.copy(0, 2, 1, 1, 2), 1);
    check.row("to another", Check.items(x, 1, 1, 3), 0, 3, 4);
    check.row("from it", Check.items(x, 0, 1, 5), 1, 2, 3, 4, 5);
    check.due("copy(0, 0, 0, 1, 4), as they were", x.copy(0, 0, 0, 1, 4), 1);
    check.row("forward", Check.items(x, 0, 1, 5), 1, 1, 2, 3, 4);
    check.due("copy(0, 2, 0, 0, 3), as they were", x.copy(0, 2, 0, 0, 3), 1);
    check.row("back", Check.items(x, 0, 1, 5), 2, 3, 4, 3, 4);
    check.due("copy(0, 5, 1, 3, 0) of none at the ends", x.copy(0, 5, 1, 3, 0), 1);
    check.due("no finding", x.count(8), 0);
  }

  private static void copyRefuses() {
    SnowPaths x = new SnowPaths();
    x.sheet(0, 1, 5);
    x.sheet(1, 1, 3);
    x.sheet(2, 2, 5);
    check.due("copy(-1, ..)", x.copy(-1, 0, 1, 0, 1), SnowPaths.BAD);
    check.due("copy(4, ..)", x.copy(4, 0, 1, 0, 1), SnowPaths.BAD);
    check.due("copy(.., -1, ..)", x.copy(0, 0, -1, 0, 1), SnowPaths.BAD);
    check.due("copy(.., 4, ..)", x.copy(3, 0, 4, 0, 1), SnowPaths.BAD);
    check.due("no finding yet", x.count(8), 0);
    check.due("copy from a lost one", x.copy(3, 0, 0, 0, 1), -11);
    check.due("copy to a lost one", x.copy(0, 9, 3, 0, 1), -11);
    check.due("the finding", x.count(8), 1);
    check.due("copy of unlike forms, ahead of index", x.copy(0, 9, 2, 0, 1), -14);
    check.due("the finding", x.count(8), 4);
    int[][] off = {{-1, 0, 1}, {0, -1, 1}, {0, 0, -1}, {5, 0, 1}, {0, 3, 1}, {0, 0, 4}, {3, 0, 3}, {0, 1, 3},
        {6, 0, 0}, {0, 4, 0}, {1, 0, Integer.MAX_VALUE}, {0, Integer.MAX_VALUE, 1}, {LEAST, 0, LEAST},
        {Integer.MAX_VALUE, 0, Integer.MAX_VALUE}, {0, LEAST, 1}, {0, 0, LEAST}, {2, 1, -1}};
    for (int[] o : off) {
      x.lose(3);
      check.due("copy(0, " + o[0] + ", 1, " + o[1] + ", " + o[2] + ")", x.copy(0, o[0], 1, o[1], o[2]), -12);
      check.due("the finding", x.count(8), 2);
    }
    for (int wild : Check.WILD) {
      check.due("copy(" + wild + ", ..)", x.copy(wild, 0, 0, 0, 1), SnowPaths.BAD);
      check.due("copy(.., " + wild + ", ..)", x.copy(0, 0, wild, 0, 1), SnowPaths.BAD);
    }
    check.row("nothing copied", Check.items(x, 1, 1, 3), 0, 0, 0);
  }

  private static void write() {
    SnowPaths x = Check.walled("..o.....", "........");
    x.walker(0, 3);
    x.walker(1, 0);
    x.walk(0);
    x.sheet(0, 0, 64);
    x.sheet(1, 1, 4);
    x.sheet(2, 2, 0);
    Check.fill(x, 0, 0, 9, 9, 9, 9, 9, 9);
    check.due("write(0)", x.write(0), 64);
    check.row("its items", Check.items(x, 0, 0, 13), 1, 1, 0, 1, 0, 0, 0, 0, 0, 1, 1, 1, 0);
    check.due("write(1)", x.write(1), 4);
    check.row("its items", Check.items(x, 1, 1, 4), 1, 1, 0, 1);
    check.due("write(2) of no items", x.write(2), 0);
    check.due("nobody went", x.count(6), 5);
    x.gone();
    check.due("write(0) of nobody", x.write(0), 64);
    check.row("its items", Check.items(x, 0, 0, 64), new int[64]);
  }

  private static void writeRefuses() {
    SnowPaths x = new SnowPaths();
    check.due("write(-1)", x.write(-1), SnowPaths.BAD);
    check.due("write(4)", x.write(4), SnowPaths.BAD);
    for (int wild : Check.WILD) {
      check.due("write(" + wild + ")", x.write(wild), SnowPaths.BAD);
    }
    check.due("no finding yet", x.count(8), 0);
    check.due("write(0) of a lost one", x.write(0), -11);
    check.due("the finding", x.count(8), 1);
  }

  private static void count() {
    SnowPaths x = Check.walled("..o....o", ".......o", "........");
    x.walker(0, 1);
    x.walker(1, 0);
    x.snows(5);
    x.morning();
    x.freezes();
    x.walk(0);
    x.get(0, 0, 0);
    int[] got = new int[9];
    for (int what = 0; what < 9; what++) {
      got[what] = x.count(what);
    }
    check.row("counts", got, 71, 40, 3, 24 * 5 - 3, 3, 2, 3, 2, 1);
    check.due("count(-1)", x.count(-1), SnowPaths.BAD);
    check.due("count(9)", x.count(9), SnowPaths.BAD);
    for (int wild : Check.WILD) {
      check.due("count(" + wild + ")", x.count(wild), SnowPaths.BAD);
    }
  }

  private static final int[][] EIGHT = {
      {0, 63}, {7, 56}, {1, 3}, {6, 0}, {2, 9}, {40, 40}, {16, 19}, {63, 0}};

  private static SnowPaths withWalkers(int number) {
    SnowPaths x = Check.green("..o...#.", "..#.....", ".o......", "....#...");
    for (int n = 0; n < number; n++) {
      x.walker(EIGHT[n][0], EIGHT[n][1]);
    }
    return x;
  }

  private static SnowPaths behindAMorning() {
    SnowPaths x = withWalkers(8);
    x.snows(6);
    x.morning();
    x.freezes();
    x.thaws(1);
    x.clear(9, 0);
    return x;
  }

  private static void digest() {
    SnowPaths x = new SnowPaths();
    check.due("digest() of a new object", x.digest(), digestOf(x));
    for (int n = 0; n <= 8; n++) {
      SnowPaths y = withWalkers(n);
      check.due("digest() with " + n, y.digest(), digestOf(y, EIGHT));
    }
    SnowPaths z = behindAMorning();
    long before = z.digest();
    check.due("digest() behind a morning", before, digestOf(z, EIGHT));
    z.get(0, 0, 0);
    z.sheet(0, 0, 9);
    check.due("digest() leaves out sheets and findings", z.digest(), before);
    SnowPaths faulty = behindAMorning();
    faulty.type('x');
    check.due("digest() with a fault", faulty.digest(), digestOf(faulty, EIGHT));
  }

  private static long digestOf(SnowPaths x, int[]... walkers) {
    long h = 17;
    for (int what = 0; what < 8; what++) {
      h = 31 * h + x.count(what);
    }
    h = 31 * h + x.fault();
    for (int c = 0; c < 64; c++) {
      for (int what = 0; what < 5; what++) {
        h = 31 * h + x.cell(c, what);
      }
    }
    for (int w = 0; w < x.count(7); w++) {
      h = 31 * h + x.straight(w);
      h = 31 * h + x.plan(walkers[w][0], walkers[w][1], SnowPaths.NONE);
    }
    long[] rest = {x.all(0), x.all(1), x.all(2), x.all(3), x.longer(), x.first(0), x.first(1), x.yard(0),
        x.yard(1), x.falls(0), x.falls(1), x.left(2, 0), x.left(2, 1)};
    for (long each : rest) {
      h = 31 * h + each;
    }
    return h;
  }
}
