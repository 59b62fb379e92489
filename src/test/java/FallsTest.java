/** Promises 23 to 28: falls, grit, pictures from the tower, hints of something hidden. */
public final class FallsTest {
  private static final Check check = new Check("FallsTest");

  public static void main(String[] args) {
    falls();
    fallsInLowestTerms();
    grit();
    left();
    gritAtTheEdges();
    tower();
    towerOfNobodyAndMany();
    towerOrder();
    towerRefuses();
    hints();
    hintsWithSomethingHidden();
    hintsRefuse();
    nothingChanges();
    check.end();
  }

  /** Ice 2, 2, 3 on cells 1, 2, 3; a morning comes onto them once, once, twice. */
  private static SnowPaths icy() {
    SnowPaths x = Check.walled("........");
    x.walker(0, 3);
    x.walker(4, 3);
    x.snows(9);
    x.walk(0);
    x.walk(0);
    x.walk(1);
    x.freezes();
    return x;
  }

  private static void fraction(String what, long above, long below, long wantAbove, long wantBelow) {
    check.due(what + ", above", above, wantAbove);
    check.due(what + ", below", below, wantBelow);
  }

  private static void falls() {
    SnowPaths x = new SnowPaths();
    fraction("falls of nobody", x.falls(0), x.falls(1), 0, 1);
    x.walker(0, 3);
    x.snows(2);
    fraction("falls without ice", x.falls(0), x.falls(1), 0, 1);
    SnowPaths y = icy();
    fraction("falls", y.falls(0), y.falls(1), 1, 3);
    y.walker(5, 4);
    fraction("falls with one who comes onto no ice", y.falls(0), y.falls(1), 1, 3);
    y.walker(1, 2);
    fraction("falls with one who comes onto one", y.falls(0), y.falls(1), 12 / 6, 30 / 6);
    check.due("falls(-1)", x.falls(-1), Check.LONG_BAD);
    check.due("falls(2)", x.falls(2), Check.LONG_BAD);
    for (int wild : Check.WILD) {
      check.due("falls(" + wild + ")", x.falls(wild), Check.LONG_BAD);
    }
  }

  private static void fallsInLowestTerms() {
    SnowPaths x = Check.walled("........");
    x.walker(0, 1);
    int[][] due = {{1, 30}, {1, 15}, {1, 10}, {2, 15}, {1, 6}, {1, 5}, {7, 30}, {4, 15}, {3, 10}, {1, 3},
        {11, 30}, {2, 5}, {13, 30}, {7, 15}, {1, 2}, {8, 15}, {17, 30}, {3, 5}, {19, 30}, {2, 3},
        {7, 10}, {11, 15}, {23, 30}, {4, 5}, {5, 6}, {13, 15}, {9, 10}, {14, 15}, {29, 30}, {1, 1}};
    Check.snowOf(x, 0, 30);
    for (int n = 0; n < 30; n++) {
      x.walk(0);
      x.freezes();
      fraction("falls with ice " + (n + 1), x.falls(0), x.falls(1), due[n][0], due[n][1]);
    }
    x.walker(0, 1);
    fraction("falls of two", x.falls(0), x.falls(1), 2, 1);
    x.thaws(9);
    fraction("falls behind a thaw", x.falls(0), x.falls(1), 7, 5);
  }

  private static void grit() {
    SnowPaths x = icy();
    check.due("grit(1, 0)", x.grit(1, 0), 3);
    check.due("grit(1, 1)", x.grit(1, 1), SnowPaths.NONE);
    check.due("grit(8, 0)", x.grit(8, 0), 3);
    check.due("grit(8, 1), of like ones the least", x.grit(8, 1), 1);
    check.due("grit(8, 2)", x.grit(8, 2), 2);
    check.due("grit(8, 3)", x.grit(8, 3), SnowPaths.NONE);
    check.due("grit(2, 2)", x.grit(2, 2), SnowPaths.NONE);
    check.due("grit(0, 0)", x.grit(0, 0), SnowPaths.NONE);
    check.due("grit(8, MAX)", x.grit(8, Integer.MAX_VALUE), SnowPaths.NONE);
    check.due("grit(-1, 0)", x.grit(-1, 0), SnowPaths.BAD);
    check.due("grit(9, 0)", x.grit(9, 0), SnowPaths.BAD);
    check.due("grit(0, -1)", x.grit(0, -1), SnowPaths.BAD);
    check.due("grit(8, MIN)", x.grit(8, Integer.MIN_VALUE), SnowPaths.BAD);
    for (int wild : Check.WILD) {
      check.due("grit(" + wild + ", 0)", x.grit(wild, 0), SnowPaths.BAD);
    }
    x.gone();
    x.walker(0, 2);
    check.due("grit(8, 2) where nobody comes", x.grit(8, 2), SnowPaths.NONE);
  }

  private static void left() {
    SnowPaths x = icy();
    long[][] due = {{1, 3}, {2, 15}, {1, 15}, {0, 1}, {0, 1}};
    for (int k = 0; k < 5; k++) {
      fraction("left with " + k, x.left(k, 0), x.left(k, 1), due[k][0], due[k][1]);
    }
    fraction("left with 8", x.left(8, 0), x.left(8, 1), 0, 1);
    check.due("left(-1, 0)", x.left(-1, 0), Check.LONG_BAD);
    check.due("left(9, 0)", x.left(9, 0), Check.LONG_BAD);
    check.due("left(0, -1)", x.left(0, -1), Check.LONG_BAD);
    check.due("left(0, 2)", x.left(0, 2), Check.LONG_BAD);
    for (int wild : Check.WILD) {
      check.due("left(" + wild + ", 0)", x.left(wild, 0), Check.LONG_BAD);
      check.due("left(0, " + wild + ")", x.left(0, wild), Check.LONG_BAD);
    }
  }

  private static void gritAtTheEdges() {
    SnowPaths x = Check.walled("........");
    x.walker(1, 0);
    Check.snowOf(x, 1);
    x.walk(0);
    x.freezes();
    fraction("falls on the first cell", x.falls(0), x.falls(1), 1, 30);
    check.due("grit(1, 0) of the first cell", x.grit(1, 0), 0);
    fraction("left without the first cell", x.left(1, 0), x.left(1, 1), 0, 1);
    SnowPaths y = new SnowPaths();
    y.walker(62, 63);
    y.snows(1);
    y.walk(0);
    y.freezes();
    check.due("grit(1, 0) of the last cell", y.grit(1, 0), 63);
    fraction("left without the last cell", y.left(1, 0), y.left(1, 1), 0, 1);
  }

  private static void tower() {
    SnowPaths x = WouldBeTest.lane();
    x.sheet(0, 0, 64);
    x.write(0);
    check.due("tower(0, 0) of who was first", x.tower(0, 0), 2);
    check.due("tower(0, 1) of who was first", x.tower(0, 1), 1);
    x.sheet(1, 1, 16);
    Check.fill(x, 1, 1, 0, 3, 1);
    check.due("tower(1, 0) of who was behind", x.tower(1, 0), 4);
    check.due("tower(1, 1) of who was behind", x.tower(1, 1), 6);
    x.sheet(2, 2, 1);
    check.due("tower(2, 0) of one item", x.tower(2, 0), 6);
    check.due("tower(2, 1) of one item", x.tower(2, 1), 7);
    x.lay(2, 2, 0, 256);
    check.due("tower(2, 0) of none such", x.tower(2, 0), 0);
    check.due("tower(2, 1) of none such", x.tower(2, 1), 0);
    x.lay(0, 0, 63, 1);
    check.due("tower(0, 0) with the last item off", x.tower(0, 0), 0);
    x.morning();
    x.sheet(0, 2, 64);
    x.write(0);
    check.due("tower(0, 0) once all is trodden", x.tower(0, 0), 6);
  }

  private static void towerOfNobodyAndMany() {
    SnowPaths x = new SnowPaths();
    x.sheet(0, 0, 3);
    check.due("tower(0, 0) of nobody", x.tower(0, 0), 1);
    check.due("tower(0, 1) of nobody", x.tower(0, 1), 0);
    x.lay(0, 0, 2, 1);
    check.due("tower(0, 0) of nobody, unlike", x.tower(0, 0), 0);
    x.lay(0, 0, 2, 0);
    x.walker(0, 0);
    check.due("tower(0, 0) of one", x.tower(0, 0), 1);
    check.due("tower(0, 1) of one", x.tower(0, 1), 1);
    for (int n = 1; n < 5; n++) {
      x.walker(n, n);
    }
    check.due("tower(0, 0) of five", x.tower(0, 0), 120);
    check.due("tower(0, 1) of five", x.tower(0, 1), 31);
    check.due("towerOrder(0, 4) of five", x.towerOrder(0, 4), 4);
    x.walker(0, 1);
    check.due("tower(0, 0) of six", x.tower(0, 0), SnowPaths.FULL);
    check.due("towerOrder(0, 0) of six", x.towerOrder(0, 0), SnowPaths.FULL);
    check.due("tower(0, 2) of six", x.tower(0, 2), SnowPaths.BAD);
    check.due("towerOrder(0, 6) of six", x.towerOrder(0, 6), SnowPaths.BAD);
    check.due("tower(1, 0) of six, lost", x.tower(1, 0), -11);
    check.due("towerOrder(1, 0) of six, lost", x.towerOrder(1, 0), -11);
  }

  private static void towerOrder() {
    SnowPaths x = WouldBeTest.lane();
    x.sheet(0, 0, 64);
    x.write(0);
    check.row("the first such order", orderOf(x, 0), 0, 1, 2);
    x.sheet(1, 1, 16);
    Check.fill(x, 1, 1, 0, 3, 1);
    check.row("the first such order of the other", orderOf(x, 1), 1, 0, 2);
    x.sheet(2, 2, 0);
    check.row("the first of all orders", orderOf(x, 2), 0, 1, 2);
    x.sheet(2, 2, 1);
    x.lay(2, 2, 0, 5);
    check.row("none such", orderOf(x, 2), SnowPaths.NONE, SnowPaths.NONE, SnowPaths.NONE);
    check.due("towerOrder(0, 3)", x.towerOrder(0, 3), SnowPaths.BAD);
  }

  private static int[] orderOf(SnowPaths x, int s) {
    return new int[] {x.towerOrder(s, 0), x.towerOrder(s, 1), x.towerOrder(s, 2)};
  }

  private static void towerRefuses() {
    SnowPaths x = new SnowPaths();
    x.walker(0, 1);
    check.due("tower(-1, 0)", x.tower(-1, 0), SnowPaths.BAD);
    check.due("tower(4, 0)", x.tower(4, 0), SnowPaths.BAD);
    check.due("tower(0, -1)", x.tower(0, -1), SnowPaths.BAD);
    check.due("tower(0, 2)", x.tower(0, 2), SnowPaths.BAD);
    check.due("towerOrder(-1, 0)", x.towerOrder(-1, 0), SnowPaths.BAD);
    check.due("towerOrder(4, 0)", x.towerOrder(4, 0), SnowPaths.BAD);
    check.due("towerOrder(0, -1)", x.towerOrder(0, -1), SnowPaths.BAD);
    check.due("towerOrder(0, 1)", x.towerOrder(0, 1), SnowPaths.BAD);
    for (int wild : Check.WILD) {
      check.due("tower(" + wild + ", 0)", x.tower(wild, 0), SnowPaths.BAD);
      check.due("tower(0, " + wild + ")", x.tower(0, wild), SnowPaths.BAD);
      check.due("towerOrder(" + wild + ", 0)", x.towerOrder(wild, 0), SnowPaths.BAD);
      check.due("towerOrder(0, " + wild + ")", x.towerOrder(0, wild), SnowPaths.BAD);
    }
    check.due("no finding yet", x.count(8), 0);
    check.due("tower(0, 0) of a lost one", x.tower(0, 0), -11);
    check.due("the finding", x.count(8), 1);
    check.due("towerOrder(0, 0) of a lost one", x.towerOrder(0, 0), -11);
  }

  private static void hints() {
    SnowPaths x = Check.walled("........", "........");
    x.walker(5, 6);
    x.walker(0, 2);
    x.sheet(0, 0, 16);
    Check.fill(x, 0, 0, 0, 0, 1, 0, 0, 0, 0, 0, 1, 1, 1);
    check.due("hints of the way around", x.hints(0, 1, 0), 1);
    check.due("hints of the way around, the first", x.hints(0, 1, 1), 1);
    x.sheet(0, 0, 16);
    x.lay(0, 0, 1, 1);
    check.due("hints of one who stops before the end", x.hints(0, 1, 0), 1);
    check.due("hints of one who stops before the end, the first", x.hints(0, 1, 1), 2);
    x.sheet(0, 0, 16);
    check.due("hints of one who does not start", x.hints(0, 1, 0), 1);
    check.due("hints of one who does not start, the first", x.hints(0, 1, 1), 0);
    Check.fill(x, 0, 0, 0, 1, 1);
    check.due("hints of who met nothing", x.hints(0, 1, 0), 13);
    check.due("hints of who met nothing, the first", x.hints(0, 1, 1), 3);
    x.lay(0, 0, 2, 2);
    check.due("hints of what can't be", x.hints(0, 1, 0), 0);
    check.due("hints of what can't be, the first", x.hints(0, 1, 1), SnowPaths.NONE);
    x.sheet(0, 1, 0);
    check.due("hints of an empty picture", x.hints(0, 1, 0), 16);
  }

  private static void hintsWithSomethingHidden() {
    SnowPaths x = Check.walled("..o.....", "........");
    x.walker(0, 3);
    x.sheet(0, 2, 16);
    Check.fill(x, 0, 2, 0, 1, 0, 1, 0, 0, 0, 0, 0, 1, 1, 1);
    check.due("hints beside what is hidden", x.hints(0, 0, 0), 16 - 1 - 6);
    check.due("hints beside what is hidden, the first", x.hints(0, 0, 1), 4);
    x.sheet(0, 2, 16);
    Check.fill(x, 0, 2, 0, 0, 0, 1, 0, 0, 0, 0, 1, 1, 1, 1);
    check.due("hints ahead of what is hidden", x.hints(0, 0, 0), 1);
    check.due("hints ahead of what is hidden, the first", x.hints(0, 0, 1), 1);
    x.sheet(0, 2, 16);
    x.lay(0, 2, 1, 2);
    Check.fill(x, 0, 2, 1, 2, 0, 0, 0, 0, 0, 0, 1, 1, 1);
    check.due("hints of one who goes to and fro", x.hints(0, 0, 0), 0);
  }

  private static void hintsRefuse() {
    SnowPaths x = new SnowPaths();
    x.sheet(0, 0, 1);
    check.due("hints(0, 0, 0) of nobody", x.hints(0, 0, 0), SnowPaths.BAD);
    x.walker(0, 1);
    check.due("hints(-1, 0, 0)", x.hints(-1, 0, 0), SnowPaths.BAD);
    check.due("hints(4, 0, 0)", x.hints(4, 0, 0), SnowPaths.BAD);
    check.due("hints(0, -1, 0)", x.hints(0, -1, 0), SnowPaths.BAD);
    check.due("hints(0, 1, 0)", x.hints(0, 1, 0), SnowPaths.BAD);
    check.due("hints(0, 0, -1)", x.hints(0, 0, -1), SnowPaths.BAD);
    check.due("hints(0, 0, 2)", x.hints(0, 0, 2), SnowPaths.BAD);
    check.due("hints(1, 0, 2), bad ahead of null", x.hints(1, 0, 2), SnowPaths.BAD);
    for (int wild : Check.WILD) {
      check.due("hints(" + wild + ", 0, 0)", x.hints(wild, 0, 0), SnowPaths.BAD);
      check.due("hints(0, " + wild + ", 0)", x.hints(0, wild, 0), SnowPaths.BAD);
      check.due("hints(0, 0, " + wild + ")", x.hints(0, 0, wild), SnowPaths.BAD);
    }
    check.due("no finding yet", x.count(8), 0);
    check.due("hints(1, 0, 0)", x.hints(1, 0, 0), -11);
    check.due("the finding", x.count(8), 1);
    for (int n = 1; n < 8; n++) {
      x.walker(0, 1);
    }
    check.due("hints(0, 7, 0) of eight", x.hints(0, 7, 0), 64);
  }

  private static void nothingChanges() {
    SnowPaths x = icy();
    x.sheet(0, 0, 64);
    x.lay(0, 0, 5, 9);
    long before = x.digest();
    x.falls(0);
    x.grit(8, 1);
    x.left(3, 1);
    x.tower(0, 0);
    x.towerOrder(0, 1);
    x.hints(0, 1, 0);
    check.due("nothing is changed by looking", x.digest(), before);
    check.due("the picture stays", x.get(0, 0, 5), 9);
    check.due("hidden ones stay as many", x.count(2), 0);
  }
}
