/** Sentences of part 3 and of promises 23 to 28 that name a boundary, each with a test of its own. */
public final class FallsEdgesTest {
  private static final Check check = new Check("FallsEdgesTest");
  private static final int BAD = SnowPaths.BAD, FULL = SnowPaths.FULL, NONE = SnowPaths.NONE;
  private static final int NULL = -11;
  private static final int MOST = Integer.MAX_VALUE;

  public static void main(String[] args) {
    noFalls();
    fallsAboveOne();
    fallsEachTime();
    fallsByIceAlone();
    fallsAreTold();
    gritForNoneToEight();
    gritBeyond();
    gritOfMost();
    gritOfLikeOnes();
    gritAboveNothing();
    leftWithGrit();
    towerUpToFive();
    towerBeyondFive();
    towerOfAsManyItems();
    towerOfEachForm();
    towerOfNoOrder();
    towerOrderBeyond();
    towerOrderIsTheFirst();
    hintsOfOpenOnes();
    hintsOfOneCell();
    hintsOfNone();
    hintsOfOneAlone();
    hintsOfAsManyItems();
    hintsOfEight();
    check.end();
  }

  private static void fraction(String what, SnowPaths x, long above, long below) {
    check.due("falls(0) " + what, x.falls(0), above);
    check.due("falls(1) " + what, x.falls(1), below);
  }

  private static void left(SnowPaths x, int k, long above, long below) {
    check.due("left(" + k + ", 0)", x.left(k, 0), above);
    check.due("left(" + k + ", 1)", x.left(k, 1), below);
  }

  /** One lane with ice on cells 1 on as given, and nobody there any more. */
  private static SnowPaths lane(int... ice) {
    SnowPaths x = Check.walled("........");
    for (int n = 0; n < ice.length; n++) {
      int[] snow = new int[8];
      snow[n + 1] = ice[n];
      Check.snowOf(x, snow);
      x.walker(n, n + 1);
      for (int times = 0; times < ice[n]; times++) {
        x.walk(0);
      }
      x.gone();
    }
    x.freezes();
    check.row("ice", Check.cells(x, 3, 1, ice.length), ice);
    check.due("no snow is left", x.count(3), 0);
    return x;
  }

  private static void noFalls() {
    check.says("FRACTIONS are told in lowest terms, above and below (0 by 1).");
    fraction("of a new object", new SnowPaths(), 0, 1);
    SnowPaths x = lane(30, 30);
    fraction("of nobody", x, 0, 1);
    x.walker(1, 1);
    fraction("of who does not go", x, 0, 1);
    x.walker(1, 0);
    fraction("of who comes onto no ice", x, 0, 1);
    x.walker(0, 1);
    fraction("of who comes onto ice", x, 1, 1);
    x.wipe();
    Check.typeAll(x, Check.text(Check.WALL_ROW));
    fraction("among walls", x, 0, 1);
  }

  private static void fallsAboveOne() {
    check.says("FALLS: ICE by 30, together; in lowest terms");
    int[][] rows = {{30, 1, 31, 30}, {30, 2, 16, 15}, {30, 3, 11, 10}, {30, 5, 7, 6}, {30, 6, 6, 5}, {30, 10, 4, 3},
        {30, 15, 3, 2}, {30, 30, 2, 1}, {1, 0, 1, 30}, {29, 1, 1, 1}, {30, 29, 59, 30}};
    for (int[] r : rows) {
      SnowPaths x = lane(r[0], r[1]);
      x.walker(0, 2);
      fraction("with ice " + r[0] + " and " + r[1], x, r[2], r[3]);
    }
    SnowPaths eight = lane(30, 30, 30);
    Check.send(eight, 8, 0, 3);
    fraction("of eight", eight, 24, 1);
  }

  private static void fallsEachTime() {
    check.says("FALLS: over all WALKERS, CELL by CELL that they come onto");
    SnowPaths x = lane(7, 2);
    x.wipe();
    Check.typeAll(x, Check.text(Check.WALL_ROW, "...o....", ".###....", "........"));
    x.walker(0, 4);
    check.due("who goes to and fro", x.all(1), 12);
    fraction("of who comes onto one twice", x, (7 + 2 + 7) / 2, 30 / 2);
    x.walker(0, 3);
    fraction("with who stops", x, (16 + 7 + 2) / 5, 30 / 5);
  }

  private static void fallsByIceAlone() {
    check.says("FALLS: ICE by 30 (what is pressed since, or lies on it, is none)");
    SnowPaths x = lane(3);
    Check.snowOf(x, 0, 9);
    x.walker(0, 1);
    x.walk(0);
    check.row("snow, pressed, ice", new int[] {x.cell(1, 1), x.cell(1, 2), x.cell(1, 3)}, 8, 4, 3);
    fraction("by ice", x, 1, 10);
    x.clear(1, 1);
    check.row("snow, pressed, ice", new int[] {x.cell(1, 1), x.cell(1, 2), x.cell(1, 3)}, 0, 0, 3);
    fraction("by ice alone", x, 1, 10);
    check.due("grit(1, 0)", x.grit(1, 0), 1);
    x.freezes();
    fraction("without ice", x, 0, 1);
  }

  private static void fallsAreTold() {
    check.says("FALLS: above, below. BAD. (As the least long.)");
    SnowPaths x = lane(1);
    for (int what : new int[] {-1, 2, 3, 256, Integer.MIN_VALUE, Integer.MIN_VALUE + 1, MOST}) {
      check.due("falls(" + what + ")", x.falls(what), Long.MIN_VALUE + 2);
      check.due("left(0, " + what + ")", x.left(0, what), Long.MIN_VALUE + 2);
    }
    for (int k : new int[] {-1, 9, 256, Integer.MIN_VALUE, MOST}) {
      check.due("left(" + k + ", 0)", x.left(k, 0), Long.MIN_VALUE + 2);
      check.due("left(" + k + ", 2)", x.left(k, 2), Long.MIN_VALUE + 2);
      check.due("grit(" + k + ", 0)", x.grit(k, 0), BAD);
      check.due("grit(" + k + ", -1)", x.grit(k, -1), BAD);
    }
    check.due("count(8)", x.count(8), 0);
  }

  /** What a walker comes onto from 0 to 63 where nothing is in the way. */
  static final int[] STAIRS = {1, 2, 3, 4, 5, 6, 7, 15, 23, 31, 39, 47, 55, 63};

  /** Ice 1 on each of the fourteen cells that a walker comes onto. */
  static SnowPaths fourteen() {
    SnowPaths x = new SnowPaths();
    x.snows(1);
    x.walker(0, 63);
    x.walk(0);
    x.freezes();
    return x;
  }

  private static void gritForNoneToEight() {
    check.says("GRIT for k CELLS (0 to 8)");
    SnowPaths x = fourteen();
    check.due("count(5)", x.count(5), 14);
    for (int k = 0; k <= 8; k++) {
      for (int i = 0; i <= 9; i++) {
        check.due("grit(" + k + ", " + i + ")", x.grit(k, i), i < k ? STAIRS[i] : NONE);
      }
    }
  }

  private static void gritBeyond() {
    check.says("GRIT: the i-th (0 on; NONE beyond). BAD.");
    SnowPaths x = fourteen();
    for (int i : new int[] {8, 9, 63, 64, 256, 65536, MOST}) {
      check.due("grit(8, " + i + ")", x.grit(8, i), NONE);
      check.due("grit(0, " + i + ")", x.grit(0, i), NONE);
    }
    for (int i : new int[] {-1, -2, Integer.MIN_VALUE, Integer.MIN_VALUE + 1}) {
      check.due("grit(8, " + i + ")", x.grit(8, i), BAD);
      check.due("grit(0, " + i + ")", x.grit(0, i), BAD);
    }
    check.due("grit(0, 0) of nobody", new SnowPaths().grit(0, 0), NONE);
    check.due("grit(8, 0) of nobody", new SnowPaths().grit(8, 0), NONE);
  }

  private static void gritOfMost() {
    check.says("those with the most (ICE times how often they are come onto)");
    SnowPaths x = lane(2, 5);
    x.walker(0, 2);
    Check.send(x, 2, 0, 1);
    check.row("2 three times ahead of 5 once", new int[] {x.grit(8, 0), x.grit(8, 1), x.grit(8, 2)}, 1, 2, NONE);
    x.gone();
    x.walker(0, 2);
    x.walker(0, 1);
    check.row("5 once ahead of 2 twice", new int[] {x.grit(8, 0), x.grit(8, 1), x.grit(8, 2)}, 2, 1, NONE);
  }

  private static void gritOfLikeOnes() {
    check.says("GRIT: of like ones the least");
    SnowPaths x = lane(2, 6, 6, 1);
    x.walker(0, 4);
    Check.send(x, 2, 0, 1);
    check.row("grit(8, ..)", new int[] {x.grit(8, 0), x.grit(8, 1), x.grit(8, 2), x.grit(8, 3), x.grit(8, 4)},
        1, 2, 3, 4, NONE);
    x.gone();
    x.walker(0, 4);
    check.row("grit(8, ..) of one", new int[] {x.grit(8, 0), x.grit(8, 1), x.grit(8, 2), x.grit(8, 3), x.grit(8, 4)},
        2, 3, 1, 4, NONE);
    check.row("grit(1, ..) of one", new int[] {x.grit(1, 0), x.grit(1, 1)}, 2, NONE);
  }

  private static void gritAboveNothing() {
    check.says("GRIT: above 0");
    SnowPaths x = lane(3, 0, 1);
    x.walker(0, 3);
    check.row("grit(8, ..)", new int[] {x.grit(8, 0), x.grit(8, 1), x.grit(8, 2)}, 1, 3, NONE);
    x.gone();
    SnowPaths start = Check.walled("........");
    Check.snowOf(start, 1);
    start.walker(1, 0);
    start.walk(0);
    start.freezes();
    check.row("grit(8, ..) of the first cell", new int[] {start.grit(8, 0), start.grit(8, 1)}, 0, NONE);
    left(start, 0, 1, 30);
    left(start, 1, 0, 1);
    check.due("grit(8, 0) where nobody comes", x.grit(8, 0), NONE);
    x.walker(1, 2);
    check.due("grit(8, 0) where there is no ice", x.grit(8, 0), NONE);
    x.walker(2, 3);
    check.row("grit(8, ..) of the least there is", new int[] {x.grit(8, 0), x.grit(8, 1)}, 3, NONE);
  }

  private static void leftWithGrit() {
    check.says("FALLS that are left with GRIT for k CELLS: above, below.");
    SnowPaths x = fourteen();
    fraction("in all", x, 7, 15);
    long[][] due = {{7, 15}, {13, 30}, {2, 5}, {11, 30}, {1, 3}, {3, 10}, {4, 15}, {7, 30}, {1, 5}};
    for (int k = 0; k <= 8; k++) {
      left(x, k, due[k][0], due[k][1]);
    }
    SnowPaths three = lane(3, 0, 1, 2);
    three.walker(0, 4);
    left(three, 0, 1, 5);
    left(three, 1, 1, 10);
    left(three, 2, 1, 30);
    left(three, 3, 0, 1);
    left(three, 8, 0, 1);
    left(new SnowPaths(), 0, 0, 1);
    left(new SnowPaths(), 8, 0, 1);
  }

  private static void towerUpToFive() {
    check.says("TOWER: in how many orders of WALKERS; which WALKERS were first in some (bits)");
    SnowPaths x = new SnowPaths();
    x.sheet(0, 0, 0);
    int[] orders = {1, 1, 2, 6, 24, 120};
    for (int n = 0; n <= 5; n++) {
      check.due("tower(0, 0) of " + n, x.tower(0, 0), orders[n]);
      check.due("tower(0, 1) of " + n, x.tower(0, 1), (1 << n) - 1);
      x.walker(0, 1);
    }
    SnowPaths five = Check.walled("........", "........");
    Check.snowOf(five, 0, 3);
    Check.send(five, 4, 0, 2);
    five.walker(0, 1);
    five.sheet(1, 1, 2);
    Check.fill(five, 1, 1, 0, 5);
    check.due("tower(1, 0), with the fifth ahead", five.tower(1, 0), 24);
    check.due("tower(1, 1), with the fifth ahead", five.tower(1, 1), 16);
    Check.fill(five, 1, 1, 0, 1);
    check.due("tower(1, 0), with the fifth last", five.tower(1, 0), 24);
    check.due("tower(1, 1), with the fifth last", five.tower(1, 1), 15);
  }

  private static void towerBeyondFive() {
    check.says("TOWER: (5 at most: FULL)");
    SnowPaths x = new SnowPaths();
    x.sheet(0, 0, 0);
    Check.send(x, 5, 0, 1);
    check.due("tower(0, 0) of five", x.tower(0, 0), 120);
    check.due("towerOrder(0, 4) of five", x.towerOrder(0, 4), 4);
    for (int n = 6; n <= 8; n++) {
      x.walker(0, 1);
      check.due("tower(0, 0) of " + n, x.tower(0, 0), FULL);
      check.due("tower(0, 1) of " + n, x.tower(0, 1), FULL);
      check.due("towerOrder(0, 0) of " + n, x.towerOrder(0, 0), FULL);
      check.due("towerOrder(0, " + (n - 1) + ") of " + n, x.towerOrder(0, n - 1), FULL);
      check.due("towerOrder(0, " + n + ") of " + n, x.towerOrder(0, n), BAD);
    }
    x.gone();
    check.due("tower(0, 0) when gone", x.tower(0, 0), 1);
  }

  private static void towerOfAsManyItems() {
    check.says("a picture, item by item how often each CELL was PASSED by a MORNING (of as many items as there are)");
    SnowPaths x = new SnowPaths();
    x.walker(62, 63);
    x.walker(1, 0);
    for (int size : new int[] {0, 1, 2, 63, 64}) {
      x.sheet(0, 0, size);
      check.due("tower(0, 0) of " + size + " noughts", x.tower(0, 0), size == 0 ? 2 : 0);
      check.due("write(0)", x.write(0), size);
      check.due("tower(0, 0) of " + size + " written", x.tower(0, 0), 2);
      if (size > 0) {
        x.lay(0, 0, size - 1, 7);
        check.due("tower(0, 0) with the last of " + size + " off", x.tower(0, 0), 0);
      }
    }
    x.sheet(0, 0, 63);
    x.lay(0, 0, 0, 1);
    check.due("tower(0, 0) of all but the last cell", x.tower(0, 0), 2);
  }

  private static void towerOfEachForm() {
    check.says("TOWER: a SHEET of each FORM is a picture");
    for (int form = 0; form < 3; form++) {
      SnowPaths x = new SnowPaths();
      x.walker(0, 1);
      x.sheet(form, form, 2);
      Check.fill(x, form, form, 256, 1 - 65536);
      check.due("tower(" + form + ", 0), the lowest bits", x.tower(form, 0), form == 0 ? 1 : 0);
      Check.fill(x, form, form, 65536, 1);
      check.due("tower(" + form + ", 0), the lowest bits", x.tower(form, 0), form < 2 ? 1 : 0);
      Check.fill(x, form, form, 0, 1);
      check.due("tower(" + form + ", 0)", x.tower(form, 0), 1);
      Check.fill(x, form, form, 0, -1);
      check.due("tower(" + form + ", 0) with -1", x.tower(form, 0), 0);
    }
  }

  private static void towerOfNoOrder() {
    check.says("The i-th WALKER of the first such order; NONE: there is none.");
    SnowPaths x = new SnowPaths();
    Check.send(x, 5, 0, 1);
    x.sheet(0, 2, 1);
    x.lay(0, 2, 0, Integer.MIN_VALUE);
    check.due("tower(0, 0)", x.tower(0, 0), 0);
    check.due("tower(0, 1)", x.tower(0, 1), 0);
    for (int i = 0; i < 5; i++) {
      check.due("towerOrder(0, " + i + ")", x.towerOrder(0, i), NONE);
    }
    check.due("towerOrder(0, 5)", x.towerOrder(0, 5), BAD);
    check.due("count(8)", x.count(8), 0);
    x.gone();
    check.due("tower(0, 0) of nobody", x.tower(0, 0), 0);
    x.lay(0, 2, 0, 0);
    check.due("tower(0, 0) of nobody, nothing passed", x.tower(0, 0), 1);
    check.due("tower(0, 1) of nobody, nothing passed", x.tower(0, 1), 0);
  }

  private static void towerOrderBeyond() {
    check.says("towerOrder: BAD: also beyond");
    SnowPaths x = new SnowPaths();
    x.sheet(3, 0, 0);
    for (int n = 0; n <= 5; n++) {
      check.due("towerOrder(3, -1) of " + n, x.towerOrder(3, -1), BAD);
      check.due("towerOrder(3, " + n + ") of " + n, x.towerOrder(3, n), BAD);
      check.due("towerOrder(3, MAX) of " + n, x.towerOrder(3, MOST), BAD);
      for (int i = 0; i < n; i++) {
        check.due("towerOrder(3, " + i + ") of " + n, x.towerOrder(3, i), i);
      }
      x.walker(0, 1);
    }
  }

  private static void towerOrderIsTheFirst() {
    check.says("the first of these, WALKER by WALKER");
    SnowPaths x = Check.walled("........", "........");
    Check.snowOf(x, 0, 3);
    Check.send(x, 4, 0, 2);
    x.walker(0, 1);
    x.sheet(0, 2, 16);
    int[] times = {1, 2, 3, 4, 5};
    int[][] due = {{0, 1, 2, 3, 4}, {0, 1, 2, 4, 3}, {0, 1, 4, 2, 3}, {0, 4, 1, 2, 3}, {4, 0, 1, 2, 3}};
    for (int n = 0; n < 5; n++) {
      x.lay(0, 2, 1, times[n]);
      x.lay(0, 2, 2, 4);
      for (int around : new int[] {8, 9, 10}) {
        x.lay(0, 2, around, 5 - times[n]);
      }
      int[] got = new int[5];
      for (int i = 0; i < 5; i++) {
        got[i] = x.towerOrder(0, i);
      }
      check.row("with cell 1 come onto " + times[n] + " times", got, due[n]);
      check.due("tower(0, 0)", x.tower(0, 0), 24);
    }
  }

  private static void hintsOfOpenOnes() {
    check.says("HINTS: CELLS (that are open): how many, the first; NONE");
    for (char sign : new char[] {'.', '#', 'o'}) {
      SnowPaths x = Check.full(sign);
      x.walker(27, 27);
      x.sheet(0, 0, 64);
      check.due("hints(0, 0, 0) where all is " + sign, x.hints(0, 0, 0), sign == '.' ? 64 : 0);
      check.due("hints(0, 0, 1) where all is " + sign, x.hints(0, 0, 1), sign == '.' ? 0 : NONE);
      x.type('.');
      check.due("hints(0, 0, 0) with a fault", x.hints(0, 0, 0), 64);
    }
  }

  private static void hintsOfOneCell() {
    check.says("HINTS: CELLS (that are open): the first");
    for (int c : new int[] {0, 7, 8, 62, 63}) {
      for (char others : new char[] {'#', 'o'}) {
        SnowPaths x = Check.fullBut(others, c, '.');
        x.walker(c, c);
        x.sheet(0, 0, 0);
        check.due("hints(0, 0, 0), open at " + c, x.hints(0, 0, 0), 1);
        check.due("hints(0, 0, 1), open at " + c, x.hints(0, 0, 1), c);
      }
      SnowPaths y = Check.fullBut('.', c, '#');
      y.walker(27, 27);
      y.sheet(0, 0, 0);
      check.due("hints(0, 0, 0), a wall at " + c, y.hints(0, 0, 0), 63);
      check.due("hints(0, 0, 1), a wall at " + c, y.hints(0, 0, 1), c == 0 ? 1 : 0);
    }
  }

  private static void hintsOfNone() {
    check.says("HINTS: how many CELLS (what = 0), the first (1; NONE). BAD; NULL.");
    SnowPaths x = new SnowPaths();
    x.walker(0, 7);
    x.sheet(0, 0, 1);
    x.lay(0, 0, 0, 9);
    check.due("hints(0, 0, 0) of what can't be", x.hints(0, 0, 0), 0);
    check.due("hints(0, 0, 1) of what can't be", x.hints(0, 0, 1), NONE);
    x.sheet(0, 0, 64);
    check.due("hints(0, 0, 0) of who did not go", x.hints(0, 0, 0), 1);
    check.due("hints(0, 0, 1) of who did not go: where he is", x.hints(0, 0, 1), 0);
    Check.fill(x, 0, 0, 0, 1, 1, 1, 1, 1, 1);
    check.due("hints(0, 0, 1) of who stands before the end", x.hints(0, 0, 1), 7);
    check.due("hints(0, 0, 0) of who stands before the end", x.hints(0, 0, 0), 1);
    x.lose(0);
    check.due("hints(0, 0, 0) when lost", x.hints(0, 0, 0), NULL);
    check.due("count(8)", x.count(8), 1);
  }

  /** By itself walker 1 goes around; behind walker 0 it would not. */
  private static void hintsOfOneAlone() {
    check.says("HINTS: of one WALKER: the WALK alone would be just so as in the picture");
    SnowPaths x = Check.walled("........", "........");
    Check.snowOf(x, 0, 3);
    x.walker(0, 1);
    x.walker(0, 2);
    x.sheet(0, 0, 16);
    Check.fill(x, 0, 0, 0, 0, 1, 0, 0, 0, 0, 0, 1, 1, 1);
    check.due("hints(0, 1, 0) around", x.hints(0, 1, 0), 16 - 5);
    check.due("hints(0, 1, 1) around, what nobody meets", x.hints(0, 1, 1), 1);
    Check.fill(x, 0, 0, 0, 1, 1, 0, 0, 0, 0, 0, 0, 0, 0);
    check.due("hints(0, 1, 0) through", x.hints(0, 1, 0), 1);
    check.due("hints(0, 1, 1) through", x.hints(0, 1, 1), 8);
  }

  private static void hintsOfAsManyItems() {
    check.says("HINTS: in the picture (of as many items as there are)");
    SnowPaths x = Check.walled("........", "........");
    x.walker(0, 2);
    x.sheet(0, 0, 0);
    check.due("hints(0, 0, 0) of no items", x.hints(0, 0, 0), 16);
    x.sheet(0, 0, 1);
    check.due("hints(0, 0, 0) of one item", x.hints(0, 0, 0), 16);
    x.sheet(0, 0, 2);
    check.due("hints(0, 0, 0) of two noughts", x.hints(0, 0, 0), 2);
    x.sheet(0, 0, 64);
    check.due("hints(0, 0, 0) of 64 noughts", x.hints(0, 0, 0), 1);
    x.lay(0, 0, 63, 1);
    check.due("hints(0, 0, 0) with the last one off", x.hints(0, 0, 0), 0);
  }

  private static void hintsOfEight() {
    check.says("HINTS: of one WALKER (as many as there may be)");
    SnowPaths x = new SnowPaths();
    x.sheet(0, 0, 0);
    for (int n = 0; n <= 8; n++) {
      check.due("hints(0, " + n + ", 0) of " + n, x.hints(0, n, 0), BAD);
      check.due("hints(0, -1, 0) of " + n, x.hints(0, -1, 0), BAD);
      if (n > 0) {
        check.due("hints(0, " + (n - 1) + ", 0) of " + n, x.hints(0, n - 1, 0), 64);
      }
      x.walker(n, n);
    }
  }
}
