/** Promises 16 to 22: what a morning would be, in which order, and with which cell shovelled. */
public final class WouldBeTest {
  private static final Check check = new Check("WouldBeTest");

  public static void main(String[] args) {
    all();
    allWithStops();
    straight();
    longer();
    orders();
    ordersOfNobodyAndMany();
    first();
    firstOfMany();
    yard();
    ordersAreTriedAnew();
    yardAtTheEdges();
    yardOfHidden();
    nothingChanges();
    check.end();
  }

  /** Who goes first to 1 makes the straight way to 2 the better one for who comes behind. */
  static SnowPaths lane() {
    SnowPaths x = Check.walled("........", "........");
    Check.snowOf(x, 0, 3);
    x.walker(0, 2);
    x.walker(0, 1);
    x.walker(0, 1);
    return x;
  }

  private static void all() {
    SnowPaths x = Check.walled("........");
    check.due("all(0) of nobody", x.all(0), 0);
    check.due("all(3) of nobody", x.all(3), 0);
    x.walker(0, 7);
    x.walker(7, 0);
    x.snows(3);
    check.due("all(0)", x.all(0), 7 * 4 + 6 * 3 + 4);
    check.due("all(1)", x.all(1), 14);
    check.due("all(2)", x.all(2), 8);
    check.due("all(3)", x.all(3), 0);
    check.due("all(0) again", x.all(0), 50);
    check.due("all(-1)", x.all(-1), SnowPaths.BAD);
    check.due("all(4)", x.all(4), SnowPaths.BAD);
    for (int wild : Check.WILD) {
      check.due("all(" + wild + ")", x.all(wild), SnowPaths.BAD);
    }
    check.due("all(0) is what morning() is", x.morning(), 50);
    check.due("all(2) counts what it passes, not what was passed", x.all(2), 8);
    x.gone();
    x.walker(0, 1);
    check.due("all(2) of one step", x.all(2), 1);
  }

  private static void allWithStops() {
    SnowPaths x = Check.walled("..o.....");
    x.walker(0, 4);
    x.walker(3, 5);
    x.walker(8, 9);
    x.walker(2, 2);
    x.walker(6, 6);
    check.due("all(0) with stops", x.all(0), 1 + 2);
    check.due("all(1) with stops", x.all(1), 3);
    check.due("all(2) with stops", x.all(2), 3);
    check.due("all(3) with stops", x.all(3), 3);
  }

  private static void straight() {
    SnowPaths x = Check.walled("..o.....", "........", "#.......", ".#......");
    x.snows(9);
    int[][] walkers = {{0, 3}, {0, 63}, {2, 0}, {0, 2}, {16, 0}, {5, 5}, {2, 2}, {24, 0}};
    int[] due = {5, -1, -1, -1, -1, 0, -1, -1};
    for (int w = 0; w < 8; w++) {
      x.walker(walkers[w][0], walkers[w][1]);
      check.due("straight(" + w + ")", x.straight(w), due[w]);
    }
    check.due("straight(-1)", x.straight(-1), SnowPaths.BAD);
    check.due("straight(8)", x.straight(8), SnowPaths.BAD);
    x.gone();
    check.due("straight(0) of nobody", x.straight(0), SnowPaths.BAD);
    for (int wild : Check.WILD) {
      check.due("straight(" + wild + ")", x.straight(wild), SnowPaths.BAD);
    }
    SnowPaths deep = Check.green();
    deep.walker(0, 2);
    Check.snowOf(deep, 0, 30);
    check.due("straight() whatever snow lies", deep.straight(0), 2);
    check.due("while the plan goes around", deep.plan(0, 2, -1), 4);
  }

  private static void longer() {
    SnowPaths x = Check.walled("...o....", ".###....", "........");
    check.due("longer() of nobody", x.longer(), 0);
    x.walker(0, 4);
    check.due("longer() of one who turned back", x.longer(), 12 - 8);
    x.walker(0, 3);
    check.due("longer() leaves out who stops", x.longer(), 4);
    x.walker(16, 18);
    x.walker(0, 4);
    check.due("longer() of two who turned back", x.longer(), 8);
    SnowPaths deep = Check.green();
    deep.walker(0, 2);
    Check.snowOf(deep, 0, 30);
    check.due("longer() by snow", deep.longer(), 2);
  }

  private static void orders() {
    SnowPaths x = lane();
    check.due("all(0), the first first", x.all(0), 4 + 4 + 3);
    check.due("orders(0)", x.orders(0), 10);
    check.due("orders(1)", x.orders(1), 11);
    check.row("the best order", new int[] {x.order(0), x.order(1), x.order(2)}, 1, 0, 2);
    check.due("order(3)", x.order(3), SnowPaths.BAD);
    check.due("order(-1)", x.order(-1), SnowPaths.BAD);
    check.due("orders(-1)", x.orders(-1), SnowPaths.BAD);
    check.due("orders(2)", x.orders(2), SnowPaths.BAD);
    for (int wild : Check.WILD) {
      check.due("orders(" + wild + ")", x.orders(wild), SnowPaths.BAD);
      check.due("order(" + wild + ")", x.order(wild), SnowPaths.BAD);
    }
  }

  private static void ordersAreTriedAnew() {
    SnowPaths fresh = lane();
    check.due("order(0) as the first call", fresh.order(0), 1);
    SnowPaths x = Check.walled("........", "........");
    x.walker(0, 1);
    x.walker(0, 2);
    x.walker(0, 1);
    Check.snowOf(x, 0, 3);
    check.due("orders(1), the most not by the first", x.orders(1), 11);
    check.due("orders(0) by the first", x.orders(0), 10);
    x.snows(1);
    check.due("orders(0) of more than before", x.orders(0), 5 + 6 + 3);
    check.due("orders(1) of more than before", x.orders(1), 7 + 4 + 3);
    x.thaws(9);
    check.due("orders(1) of less than before", x.orders(1), 4);
    check.due("orders(0) of less than before", x.orders(0), 4);
    check.due("order(0) of like ones", x.order(0), 0);
    x.gone();
    check.due("orders(0) of nobody any more", x.orders(0), 0);
    check.due("orders(1) of nobody any more", x.orders(1), 0);
  }

  private static void ordersOfNobodyAndMany() {
    SnowPaths x = Check.walled("........", "........");
    check.due("orders(0) of nobody", x.orders(0), 0);
    check.due("orders(1) of nobody", x.orders(1), 0);
    check.due("order(0) of nobody", x.order(0), SnowPaths.BAD);
    Check.snowOf(x, 0, 3);
    for (int n = 0; n < 4; n++) {
      x.walker(0, 2);
    }
    x.walker(0, 1);
    check.due("orders(0) of five", x.orders(0), 4 + 4 + 3 + 2 + 2);
    check.due("orders(1) of five", x.orders(1), 5 * 4);
    check.row("the best of five", new int[] {x.order(0), x.order(1), x.order(2), x.order(3), x.order(4)},
        4, 0, 1, 2, 3);
    x.walker(0, 1);
    check.due("orders(0) of six", x.orders(0), SnowPaths.FULL);
    check.due("orders(2) of six", x.orders(2), SnowPaths.BAD);
    check.due("order(0) of six", x.order(0), SnowPaths.FULL);
    check.due("order(6) of six", x.order(6), SnowPaths.FULL);
    check.due("order(-1) of six", x.order(-1), SnowPaths.BAD);
  }

  private static void first() {
    SnowPaths x = lane();
    check.due("first(0), of like ones the least", x.first(0), 1);
    check.due("first(1)", x.first(1), 10);
    check.due("first(-1)", x.first(-1), SnowPaths.BAD);
    check.due("first(2)", x.first(2), SnowPaths.BAD);
    for (int wild : Check.WILD) {
      check.due("first(" + wild + ")", x.first(wild), SnowPaths.BAD);
    }
    x.gone();
    check.due("first(0) of nobody", x.first(0), SnowPaths.NOT);
    check.due("first(1) of nobody", x.first(1), SnowPaths.NOT);
    check.due("first(2) of nobody", x.first(2), SnowPaths.BAD);
    x.walker(0, 0);
    check.due("first(0) of one", x.first(0), 0);
    check.due("first(1) of one", x.first(1), 0);
  }

  private static void firstOfMany() {
    SnowPaths x = Check.walled("........", "........");
    Check.snowOf(x, 0, 3);
    for (int n = 0; n < 7; n++) {
      x.walker(0, 2);
    }
    x.walker(0, 1);
    check.due("all(0) of eight", x.all(0), 7 * 4 + 4);
    check.due("first(0) of eight", x.first(0), 7);
    check.due("first(1) of eight", x.first(1), 4 + 4 + 3 + 5 * 2);
  }

  private static void yard() {
    SnowPaths x = Check.walled("........");
    x.walker(0, 4);
    check.due("yard(0) without snow", x.yard(0), SnowPaths.NONE);
    check.due("yard(1) without snow", x.yard(1), 0);
    Check.snowOf(x, 9, 5, 2, 7, 7, 9);
    check.due("yard(0), of like ones the least", x.yard(0), 3);
    check.due("yard(1)", x.yard(1), 7);
    x.walker(3, 1);
    check.due("yard(0) with another", x.yard(0), 1);
    check.due("yard(1) with another", x.yard(1), 5 + 4);
    check.due("yard(-1)", x.yard(-1), SnowPaths.BAD);
    check.due("yard(2)", x.yard(2), SnowPaths.BAD);
    for (int wild : Check.WILD) {
      check.due("yard(" + wild + ")", x.yard(wild), SnowPaths.BAD);
    }
    x.gone();
    check.due("yard(0) of nobody", x.yard(0), SnowPaths.NONE);
    check.due("yard(1) of nobody", x.yard(1), 0);
    yardThatChangesTheWay();
  }

  private static void yardAtTheEdges() {
    SnowPaths x = Check.walled("........");
    x.walker(1, 0);
    Check.snowOf(x, 1);
    check.due("yard(0), the first cell", x.yard(0), 0);
    check.due("yard(1), the least there is", x.yard(1), 1);
    SnowPaths y = Check.green("........", "........", "........", "........", "........", "........", "........",
        "######..");
    y.walker(62, 63);
    y.snows(2);
    check.due("yard(0), the last cell", y.yard(0), 63);
    check.due("yard(1), the last cell", y.yard(1), 2);
  }

  private static void yardThatChangesTheWay() {
    SnowPaths x = Check.walled("........", "........");
    x.walker(0, 2);
    Check.snowOf(x, 0, 30, 0, 0, 0, 0, 0, 0, 1, 1, 1);
    check.due("plan around", x.plan(0, 2, 0), 8);
    check.due("yard(0) where none goes now", x.yard(0), 1);
    check.due("yard(1) where none goes now", x.yard(1), 7 - 2);
  }

  /** Bare, the hidden 10 lures the walker to 2, from where the good way goes on. */
  private static void yardOfHidden() {
    SnowPaths x = Check.walled("......##", "..o.#.##", ".o..#.##");
    x.walker(1, 18);
    Check.snowOf(x, 0, 0, 0, 0, 0, 0, 0, 0, 1, 0, 3, 0, 0, 0, 0, 0, 1);
    check.due("all(0) by 9 and back", x.all(0), 7);
    check.due("yard(0) of a hidden one", x.yard(0), 10);
    check.due("yard(1) of a hidden one", x.yard(1), 2);
  }

  private static void nothingChanges() {
    SnowPaths x = lane();
    long before = x.digest();
    x.all(0);
    x.longer();
    x.straight(0);
    x.orders(0);
    x.order(1);
    x.first(1);
    x.yard(1);
    check.due("nothing is changed by trying", x.digest(), before);
    check.due("no snow", x.count(3), 3);
    check.due("none passed", x.count(6), 0);
    check.due("none pressed", x.count(4), 0);
  }
}
