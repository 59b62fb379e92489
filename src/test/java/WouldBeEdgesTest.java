import java.util.Arrays;

/** Sentences of part 2 on what would be, and of promises 16 to 22, that name a boundary. */
public final class WouldBeEdgesTest {
  private static final Check check = new Check("WouldBeEdgesTest");
  private static final int BAD = SnowPaths.BAD, NOT = SnowPaths.NOT, FULL = SnowPaths.FULL, NONE = SnowPaths.NONE;

  public static void main(String[] args) {
    changesNothing();
    allOfNobodyAndEight();
    allCells();
    allThatStop();
    straightOfHidden();
    straightWithoutSnow();
    straightOfNobody();
    longerOfNone();
    longerOfEight();
    triedAnewEachTime();
    hiddenOnesInEachTry();
    ordersUpToFive();
    ordersBeyondFive();
    orderOfLikeOnes();
    orderBeyond();
    firstOfNobody();
    firstOfLikeOnes();
    firstOfEight();
    yardOfNone();
    yardOfLikeOnes();
    yardThatWouldBeWorse();
    yardOfWall();
    yardIsTriedOnly();
    check.end();
  }

  private static void changesNothing() {
    check.says("What follows changes nothing (all is tried from as it is)");
    int[][] none = {{}};
    int[][] whats = {{0}, {1}};
    unchanged("all", new int[][] {{0}, {1}, {2}, {3}});
    unchanged("straight", new int[][] {{0}, {1}, {2}});
    unchanged("longer", none);
    unchanged("orders", whats);
    unchanged("order", new int[][] {{0}, {1}, {2}});
    unchanged("first", whats);
    unchanged("yard", whats);
    unchanged("falls", whats);
    unchanged("grit", new int[][] {{0, 0}, {8, 0}, {8, 7}});
    unchanged("left", new int[][] {{0, 0}, {8, 1}});
    unchanged("tower", new int[][] {{0, 0}, {0, 1}, {1, 0}, {2, 1}});
    unchanged("towerOrder", new int[][] {{0, 0}, {1, 2}, {2, 1}});
    unchanged("hints", new int[][] {{0, 0, 0}, {1, 1, 1}, {2, 2, 0}});
    unchanged("plan", new int[][] {{0, 63, -1}, {0, 63, 5}, {10, 3, 0}});
    unchanged("fault", none);
    unchanged("cell", new int[][] {{0, 0}, {63, 4}});
    unchanged("count", new int[][] {{0}, {8}});
    unchanged("digest", none);
    unchanged("get", new int[][] {{0, 0, 63}, {1, 1, 0}});
  }

  private static void unchanged(String name, int[][] rows) {
    for (int[] args : rows) {
      SnowPaths x = RefusalsTest.rich(4);
      SnowPaths untouched = RefusalsTest.rich(4);
      long got = Calls.make(x, name, args);
      check.due(Calls.told(name, args) + " again", Calls.make(x, name, args), got);
      check.due(Calls.told(name, args) + " is no finding", x.count(8), 0);
      check.due(Calls.told(name, args), Arrays.equals(RefusalsTest.seen(x), RefusalsTest.seen(untouched)));
    }
  }

  private static int[] all(SnowPaths x) {
    return new int[] {x.all(0), x.all(1), x.all(2), x.all(3)};
  }

  private static void allOfNobodyAndEight() {
    check.says("ALL: EFFORT of all WALKERS of a MORNING together, STEPS of all");
    SnowPaths x = Check.walled("..######");
    Check.snowOf(x, 0, 30);
    check.row("all() of nobody", all(x), 0, 0, 0, 0);
    int effort = 0;
    for (int n = 1; n <= 8; n++) {
      x.walker(0, 1);
      effort += 32 - n;
      check.row("all() of " + n, all(x), effort, n, 1, 0);
    }
    check.due("all(-1)", x.all(-1), BAD);
    check.due("all(4)", x.all(4), BAD);
  }

  private static void allCells() {
    check.says("how many CELLS are PASSED by it");
    SnowPaths x = Check.walled("........");
    x.walker(3, 3);
    check.due("all(2) of none who goes", x.all(2), 0);
    x.walker(0, 7);
    check.due("all(2), where one starts is not come onto", x.all(2), 7);
    x.walker(1, 0);
    check.due("all(2), the first cell", x.all(2), 8);
    x.walker(0, 7);
    check.due("all(2), each cell once", x.all(2), 8);
    x.morning();
    x.gone();
    check.due("all(2), what was passed before is not counted", x.all(2), 0);
    SnowPaths last = new SnowPaths();
    last.walker(62, 63);
    check.due("all(2), the last cell", last.all(2), 1);
  }

  private static void allThatStop() {
    check.says("how many STOP");
    SnowPaths walls = Check.full('#');
    Check.send(walls, 8, 0, 63);
    check.row("all() among walls alone", all(walls), 0, 0, 0, 8);
    SnowPaths same = new SnowPaths();
    Check.send(same, 8, 27, 27);
    check.row("all() of those who are there", all(same), 0, 0, 0, 0);
    SnowPaths half = Check.walled("..o.....");
    Check.send(half, 4, 0, 7);
    Check.send(half, 4, 3, 7);
    check.row("all() of four who stop and four who do not", all(half), 4 + 16, 20, 1 + 4, 4);
  }

  private static void straightOfHidden() {
    check.says("STRAIGHT: STEPS of a WALKER, were there nothing HIDDEN unknown (fewest CELLS; NONE)");
    SnowPaths x = Check.walled("...o....", ".###....", "........", "oooooooo", "........");
    x.walker(0, 4);
    x.walker(0, 3);
    x.walker(3, 0);
    x.walker(3, 3);
    x.walker(0, 32);
    x.walker(9, 9);
    x.walker(0, 1);
    x.walker(0, 0);
    check.row("straight()", new int[] {x.straight(0), x.straight(1), x.straight(2), x.straight(3), x.straight(4),
        x.straight(5), x.straight(6), x.straight(7)}, 8, NONE, NONE, NONE, NONE, NONE, 1, 0);
  }

  private static void straightWithoutSnow() {
    check.says("STRAIGHT: and no SNOW");
    SnowPaths x = new SnowPaths();
    x.walker(0, 63);
    x.walker(0, 2);
    Check.snowOf(x, 30, 30, 30, 0, 0, 0, 0, 0, 0, 0, 0);
    check.due("straight(0)", x.straight(0), 14);
    check.due("straight(1)", x.straight(1), 2);
    check.due("straight(1) is not the plan's way", x.plan(0, 2, -1), 4 + 30);
    SnowPaths snake = Check.green(
        "........", "#######.", "........", ".#######", "........", "#######.", "........", ".#######");
    snake.walker(0, 56);
    snake.snows(9);
    check.due("straight(0) to and fro", snake.straight(0), 35);
  }

  private static void straightOfNobody() {
    check.says("STRAIGHT of a WALKER; NONE. BAD.");
    SnowPaths x = new SnowPaths();
    for (int n = 0; n <= 8; n++) {
      check.due("straight(" + n + ") of " + n, x.straight(n), BAD);
      check.due("straight(-1) of " + n, x.straight(-1), BAD);
      x.walker(0, n);
      check.due("straight(" + n + ")", x.straight(n), n == 8 ? BAD : n);
    }
  }

  private static void longerOfNone() {
    check.says("LONGER: of those that do not STOP");
    SnowPaths x = Check.walled("...o....", ".###....", "........", "########", "........");
    check.due("longer() of nobody", x.longer(), 0);
    x.walker(0, 0);
    check.due("longer() of who is there", x.longer(), 0);
    x.walker(16, 23);
    check.due("longer() of who goes straight", x.longer(), 0);
    x.walker(0, 3);
    x.walker(0, 32);
    x.walker(3, 0);
    x.walker(9, 9);
    check.due("longer() of those who stop", x.longer(), 0);
    check.due("they stop", x.all(3), 4);
    x.walker(0, 4);
    check.due("longer() of who turned back", x.longer(), 4);
  }

  private static void longerOfEight() {
    check.says("LONGER: STEPS of a MORNING less STRAIGHT, together");
    SnowPaths x = Check.walled("...o....", ".###....", "........");
    for (int n = 1; n <= 8; n++) {
      x.walker(0, 4);
      check.due("longer() of " + n, x.longer(), 4 * n);
    }
    x.snows(9);
    check.due("longer() counts cells, not snow", x.longer(), 32);
  }

  private static void triedAnewEachTime() {
    check.says("all is tried from as it is");
    SnowPaths x = WouldBeTest.lane();
    int[] due = {11, 2, 10, 10, 1, 11, 11};
    int[] got = {x.all(0), x.longer(), x.orders(0), x.first(1), x.order(0), x.orders(1), x.all(0)};
    check.row("one behind the other", got, due);
    int[] again = {x.longer(), x.longer(), x.yard(1), x.longer(), x.all(1), x.all(1)};
    check.row("and again", again, 2, 2, 3 + 2 + 2, 2, 6, 6);
  }

  private static void hiddenOnesInEachTry() {
    check.says("A WALK: .. until the next CELL is HIDDEN (in all that is tried)");
    SnowPaths x = Check.walled("...o....", ".###....", "........");
    x.walker(0, 4);
    x.walker(0, 1);
    check.row("all()", all(x), 12 + 1, 13, 3 + 8, 0);
    check.row("orders()", new int[] {x.orders(0), x.orders(1)}, 13, 13);
    check.row("first()", new int[] {x.first(0), x.first(1)}, 0, 13);
    x.snows(1);
    check.due("all(0) in snow", x.all(0), 2 + 2 + 1 + 2 + 8 * 2 + 1);
    check.row("orders() in snow", new int[] {x.orders(0), x.orders(1)}, 24, 24);
    check.row("first() in snow", new int[] {x.first(0), x.first(1)}, 0, 24);
    check.row("yard() in snow", new int[] {x.yard(0), x.yard(1)}, 0, 1);
  }

  private static void ordersUpToFive() {
    check.says("ORDERS of up to 5 WALKERS: the least, the most EFFORT of all, over all orders");
    SnowPaths x = Check.walled("........", "........");
    Check.snowOf(x, 0, 3);
    check.row("orders() of nobody", new int[] {x.orders(0), x.orders(1)}, 0, 0);
    x.walker(0, 2);
    check.row("orders() of one", new int[] {x.orders(0), x.orders(1)}, 4, 4);
    x.walker(0, 1);
    check.row("orders() of two", new int[] {x.orders(0), x.orders(1)}, 4 + 4, 4 + 4);
    x.walker(0, 1);
    check.row("orders() of three", new int[] {x.orders(0), x.orders(1)}, 10, 11);
    x.walker(0, 1);
    check.row("orders() of four", new int[] {x.orders(0), x.orders(1)}, 4 + 4 + 2 + 1, 4 + 4 + 3 + 2);
    x.walker(0, 1);
    check.row("orders() of five", new int[] {x.orders(0), x.orders(1)}, 4 + 4 + 2 + 1 + 1, 4 + 4 + 3 + 2 + 1);
    check.due("orders(-1)", x.orders(-1), BAD);
    check.due("orders(2)", x.orders(2), BAD);
  }

  private static void ordersBeyondFive() {
    check.says("ORDERS of up to 5 WALKERS (else FULL)");
    SnowPaths x = new SnowPaths();
    Check.send(x, 5, 0, 1);
    check.due("orders(0) of five", x.orders(0), 5);
    check.due("order(4) of five", x.order(4), 4);
    for (int n = 6; n <= 8; n++) {
      x.walker(0, 1);
      check.due("orders(0) of " + n, x.orders(0), FULL);
      check.due("orders(1) of " + n, x.orders(1), FULL);
      check.due("order(0) of " + n, x.order(0), FULL);
      check.due("order(" + (n - 1) + ") of " + n, x.order(n - 1), FULL);
    }
    x.gone();
    check.due("orders(0) of nobody", x.orders(0), 0);
    Check.send(x, 5, 0, 2);
    check.due("orders(1) of five again", x.orders(1), 10);
  }

  private static void orderOfLikeOnes() {
    check.says("the order with the least, of like ones the least row");
    SnowPaths x = new SnowPaths();
    x.snows(9);
    for (int n = 1; n <= 5; n++) {
      x.walker(27, 28);
      for (int i = 0; i < n; i++) {
        check.due("order(" + i + ") of " + n + " like ones", x.order(i), i);
      }
    }
    SnowPaths lane = WouldBeTest.lane();
    lane.walker(0, 1);
    lane.walker(0, 2);
    check.row("four of the least", new int[] {lane.order(0), lane.order(1), lane.order(2), lane.order(3), lane.order(4)},
        1, 0, 2, 3, 4);
  }

  private static void orderBeyond() {
    check.says("The i-th WALKER of the best order. BAD: also beyond");
    SnowPaths x = new SnowPaths();
    for (int n = 0; n <= 5; n++) {
      check.due("order(" + n + ") of " + n, x.order(n), BAD);
      check.due("order(-1) of " + n, x.order(-1), BAD);
      check.due("order(5) of " + n, x.order(5), BAD);
      check.due("order(MAX) of " + n, x.order(Integer.MAX_VALUE), BAD);
      if (n > 0) {
        check.due("order(" + (n - 1) + ") of " + n, x.order(n - 1), n - 1);
      }
      x.walker(0, 1);
    }
  }

  private static void firstOfNobody() {
    check.says("FIRST: BAD; NOT: nobody.");
    SnowPaths x = new SnowPaths();
    check.due("first(0)", x.first(0), NOT);
    check.due("first(1)", x.first(1), NOT);
    x.walker(0, 3);
    check.row("first() of one", new int[] {x.first(0), x.first(1)}, 0, 3);
    x.gone();
    check.due("first(0) when gone", x.first(0), NOT);
    SnowPaths stops = Check.full('#');
    Check.send(stops, 3, 0, 1);
    check.row("first() of those who stop", new int[] {stops.first(0), stops.first(1)}, 0, 0);
  }

  private static void firstOfLikeOnes() {
    check.says("such that EFFORT of all is least, of like ones the least");
    SnowPaths x = new SnowPaths();
    x.snows(9);
    for (int n = 1; n <= 8; n++) {
      x.walker(27, 28);
      check.due("first(0) of " + n + " like ones", x.first(0), 0);
      check.due("first(1) of " + n + " like ones", x.first(1), x.all(0));
    }
    check.due("first(0), two of the least", WouldBeTest.lane().first(0), 1);
  }

  private static void firstOfEight() {
    check.says("FIRST: whom to send ahead of all others (these as they are numbered)");
    SnowPaths x = Check.walled("........", "........");
    Check.snowOf(x, 0, 3);
    for (int n = 0; n < 7; n++) {
      x.walker(0, 2);
      check.row("first() of " + (n + 1), new int[] {x.first(0), x.first(1)}, 0, 4 * (n + 1));
    }
    x.walker(0, 1);
    check.row("first() of eight", new int[] {x.first(0), x.first(1)}, 7, 4 + 4 + 3 + 5 * 2);
    check.due("first(2)", x.first(2), BAD);
    SnowPaths y = Check.walled("........", "........");
    Check.snowOf(y, 0, 4);
    y.walker(0, 2);
    y.walker(0, 1);
    y.walker(0, 1);
    y.walker(0, 2);
    check.row("the others as they are numbered, not as is best", new int[] {y.first(0), y.first(1)}, 0, 4 + 5 + 4 + 4);
    check.due("as is best", y.orders(0), 5 + 4 + 4 + 3);
  }

  private static void yardOfNone() {
    check.says("YARD: by how much (NONE, 0: none does)");
    SnowPaths x = Check.walled("........", "........");
    check.row("yard() of nobody without snow", new int[] {x.yard(0), x.yard(1)}, NONE, 0);
    x.walker(0, 7);
    check.row("yard() without snow", new int[] {x.yard(0), x.yard(1)}, NONE, 0);
    Check.snowOf(x, 30, 0, 0, 0, 0, 0, 0, 0, 9, 9, 9);
    check.row("yard() with snow where nobody comes", new int[] {x.yard(0), x.yard(1)}, NONE, 0);
    x.gone();
    x.walker(1, 1);
    x.walker(16, 1);
    check.row("yard() of those who do not go", new int[] {x.yard(0), x.yard(1)}, NONE, 0);
    x.walker(1, 0);
    check.row("yard() of the first cell", new int[] {x.yard(0), x.yard(1)}, 0, 30);
    check.due("yard(2)", x.yard(2), BAD);
    check.due("yard(-1)", x.yard(-1), BAD);
  }

  private static void yardOfLikeOnes() {
    check.says("lessens EFFORT of all most, of like ones the least");
    SnowPaths x = Check.walled("........");
    x.snows(3);
    x.walker(0, 7);
    check.row("yard()", new int[] {x.yard(0), x.yard(1)}, 1, 3);
    x.walker(7, 4);
    check.row("yard() where two come", new int[] {x.yard(0), x.yard(1)}, 4, 3 + 2);
    x.walker(7, 6);
    check.row("yard() where three come", new int[] {x.yard(0), x.yard(1)}, 6, 3 + 2 + 1);
  }

  /** Bare, cell 1 would lure the walker into the lane that is shut by the hidden 3. */
  private static void yardThatWouldBeWorse() {
    check.says("YARD: that lessens EFFORT (one that makes it more is none)");
    SnowPaths x = Check.walled("...o....", ".##.....", "........");
    Check.snowOf(x, 0, 9);
    x.walker(0, 4);
    check.due("all(0) around", x.all(0), 8);
    check.row("yard()", new int[] {x.yard(0), x.yard(1)}, NONE, 0);
    Check.snowOf(x, 0, 0);
    check.due("all(0) when lured", x.all(0), 12);
  }

  private static void yardOfWall() {
    check.says("YARD: the CELL (no WALL)");
    SnowPaths x = new SnowPaths();
    x.snows(9);
    Check.typeAll(x, Check.text(Check.WALL_ROW, "..#....."));
    x.walker(0, 7);
    x.walker(0, 1);
    check.row("yard() beside a wall with snow", new int[] {x.yard(0), x.yard(1)}, 1, 9);
    SnowPaths walls = new SnowPaths();
    walls.snows(9);
    Check.typeAll(walls, Check.text(Check.WALL_ROW));
    walls.walker(0, 1);
    check.row("yard() among walls alone", new int[] {walls.yard(0), walls.yard(1)}, NONE, 0);
  }

  private static void yardIsTriedOnly() {
    check.says("its SNOW being 0 ahead of it");
    SnowPaths x = Check.walled("........");
    Check.snowOf(x, 0, 30);
    Check.send(x, 8, 0, 1);
    check.row("yard() of eight", new int[] {x.yard(0), x.yard(1)}, 1, 30 + 29 + 28 + 27 + 26 + 25 + 24 + 23);
    check.due("cell(1, 1)", x.cell(1, 1), 30);
    check.due("all(0)", x.all(0), 8 + 212);
  }
}
