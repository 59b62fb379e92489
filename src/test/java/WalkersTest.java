/** Promises 11 to 15: walkers, plans, walks, mornings. */
public final class WalkersTest {
  private static final Check check = new Check("WalkersTest");

  public static void main(String[] args) {
    walker();
    gone();
    planOnBareGround();
    planThroughSnow();
    planByWalls();
    planFromOrToNowhere();
    planRefuses();
    walk();
    walkAroundHidden();
    walkBackFromHidden();
    walkThatStops();
    walkToWhereOneIs();
    pressedIsThirtyAtMost();
    morning();
    check.end();
  }

  private static void walker() {
    SnowPaths x = Check.walled();
    check.due("walker(-1, 0)", x.walker(-1, 0), SnowPaths.BAD);
    check.due("walker(0, -1)", x.walker(0, -1), SnowPaths.BAD);
    check.due("walker(64, 0)", x.walker(64, 0), SnowPaths.BAD);
    check.due("walker(0, 64)", x.walker(0, 64), SnowPaths.BAD);
    for (int n = 0; n < 8; n++) {
      check.due("walker(" + n + ", 63)", x.walker(n, 63), n);
    }
    check.due("walker(0, 1), the ninth", x.walker(0, 1), SnowPaths.FULL);
    check.due("walker(0, 64), the ninth", x.walker(0, 64), SnowPaths.BAD);
    for (int wild : Check.WILD) {
      check.due("walker(" + wild + ", 1)", x.walker(wild, 1), SnowPaths.BAD);
      check.due("walker(1, " + wild + ")", x.walker(1, wild), SnowPaths.BAD);
    }
    check.due("count(7)", x.count(7), 8);
  }

  private static void gone() {
    SnowPaths x = new SnowPaths();
    check.due("gone() of nobody", x.gone(), 0);
    x.walker(5, 6);
    x.walker(7, 8);
    check.due("gone()", x.gone(), 2);
    check.due("count(7)", x.count(7), 0);
    check.due("walk(0) of nobody", x.walk(0), SnowPaths.BAD);
    check.due("walker(0, 1)", x.walker(0, 1), 0);
    check.due("walk(0)", x.walk(0), 1);
    check.due("cell(1, 4)", x.cell(1, 4), 1);
  }

  private static void planOnBareGround() {
    SnowPaths x = new SnowPaths();
    check.row("east ahead of south", Check.planned(x, 0, 9), 1, 9);
    check.row("north ahead of west", Check.planned(x, 9, 0), 1, 0);
    check.row("north ahead of east", Check.planned(x, 8, 1), 0, 1);
    check.row("south ahead of west", Check.planned(x, 1, 8), 9, 8);
    check.due("plan(0, 63, -1)", x.plan(0, 63, -1), 14);
    check.row("plan 0 to 63", Check.planned(x, 0, 63), 1, 2, 3, 4, 5, 6, 7, 15, 23, 31, 39, 47, 55, 63);
    check.row("plan 63 to 0", Check.planned(x, 63, 0), 55, 47, 39, 31, 23, 15, 7, 6, 5, 4, 3, 2, 1, 0);
    check.row("not from a row's end to the next row", Check.planned(x, 7, 8), 15, 14, 13, 12, 11, 10, 9, 8);
    check.row("nor back", Check.planned(x, 8, 7), 0, 1, 2, 3, 4, 5, 6, 7);
    check.due("plan(0, 1, 1) beyond", x.plan(0, 1, 1), SnowPaths.NONE);
    check.due("plan(0, 1, MAX) beyond", x.plan(0, 1, Integer.MAX_VALUE), SnowPaths.NONE);
  }

  private static void planThroughSnow() {
    SnowPaths x = Check.walled("........", "........");
    Check.snowOf(x, 9, 2);
    check.due("of like ones, what it costs", x.plan(0, 2, -1), 4);
    check.row("of like ones, the shorter with the least row", Check.planned(x, 0, 2), 1, 2);
    Check.snowOf(x, 9, 3);
    check.due("around, what it costs", x.plan(0, 2, -1), 4);
    check.row("around", Check.planned(x, 0, 2), 8, 9, 10, 2);
    Check.snowOf(x, 0, 0, 0, 0, 0, 0, 0, 0, 0, 2);
    check.row("of like ones, the longer with the least row", Check.planned(x, 8, 10), 0, 1, 2, 10);
    check.due("snow where one starts costs nothing", x.plan(9, 10, -1), 1);
    check.due("snow where one ends costs", x.plan(8, 9, -1), 3);
    SnowPaths deep = Check.walled("........");
    for (int n = 0; n < 4; n++) {
      deep.snows(9);
    }
    check.due("plan(0, 7, -1) through the deepest", deep.plan(0, 7, -1), 7 * 31);
  }

  private static void planByWalls() {
    SnowPaths x = Check.green(
        ".#......", ".#.####.", ".#.#..#.", ".#.#.##.", ".#.#....", ".#.#####", ".#......", "........");
    check.due("plan(0, 36, -1) in a maze", x.plan(0, 36, -1), 7 + 2 + 7 + 5 + 4 + 3);
    check.due("plan(0, 36, 0)", x.plan(0, 36, 0), 8);
    check.due("plan(0, 36, 27)", x.plan(0, 36, 27), 36);
    check.due("plan(0, 36, 28)", x.plan(0, 36, 28), SnowPaths.NONE);
    longestWay();
  }

  private static void longestWay() {
    SnowPaths x = Check.green(
        "........", "#######.", "........", ".#######", "........", "#######.", "........", ".#######");
    for (int n = 0; n < 4; n++) {
      x.snows(9);
    }
    check.due("plan(0, 56, -1) to and fro through the deepest", x.plan(0, 56, -1), 35 * 31);
    check.due("plan(0, 56, 34)", x.plan(0, 56, 34), 56);
    check.due("plan(0, 57, -1) to a wall", x.plan(0, 57, -1), SnowPaths.NONE);
  }

  private static void planFromOrToNowhere() {
    SnowPaths x = Check.green("#.o.....", "........", "........", "........", "........", "........", "......##",
        "......#.");
    check.due("plan from a wall", x.plan(0, 1, -1), SnowPaths.NONE);
    check.due("plan from a wall, first cell", x.plan(0, 1, 0), SnowPaths.NONE);
    check.due("plan to a wall", x.plan(1, 0, -1), SnowPaths.NONE);
    check.due("plan from a hidden one", x.plan(2, 3, -1), SnowPaths.NONE);
    check.due("plan from a hidden one, first cell", x.plan(2, 3, 0), SnowPaths.NONE);
    check.due("plan to a hidden one", x.plan(1, 2, -1), 1);
    check.row("plan through a hidden one", Check.planned(x, 1, 3), 2, 3);
    check.due("plan into a closed corner", x.plan(1, 63, -1), SnowPaths.NONE);
    check.due("plan into a closed corner, first cell", x.plan(1, 63, 0), SnowPaths.NONE);
    check.due("plan out of it", x.plan(63, 1, -1), SnowPaths.NONE);
    check.due("plan to where one is", x.plan(63, 63, -1), 0);
    check.due("plan to where one is, first cell", x.plan(63, 63, 0), SnowPaths.NONE);
    check.due("plan from a wall to itself", x.plan(0, 0, -1), SnowPaths.NONE);
    check.due("plan from a hidden one to itself", x.plan(2, 2, -1), SnowPaths.NONE);
  }

  private static void planRefuses() {
    SnowPaths x = new SnowPaths();
    check.due("plan(-1, 0, 0)", x.plan(-1, 0, 0), SnowPaths.BAD);
    check.due("plan(64, 0, 0)", x.plan(64, 0, 0), SnowPaths.BAD);
    check.due("plan(0, -1, 0)", x.plan(0, -1, 0), SnowPaths.BAD);
    check.due("plan(0, 64, 0)", x.plan(0, 64, 0), SnowPaths.BAD);
    check.due("plan(0, 1, -2)", x.plan(0, 1, -2), SnowPaths.BAD);
    check.due("plan(0, 1, MIN)", x.plan(0, 1, Integer.MIN_VALUE), SnowPaths.BAD);
    for (int wild : Check.WILD) {
      check.due("plan(" + wild + ", 1, 0)", x.plan(wild, 1, 0), SnowPaths.BAD);
      check.due("plan(1, " + wild + ", 0)", x.plan(1, wild, 0), SnowPaths.BAD);
    }
  }

  private static void walk() {
    SnowPaths x = Check.walled("........");
    x.walker(0, 3);
    Check.snowOf(x, 4, 2, 0, 1);
    check.due("walk(0)", x.walk(0), 3 + 1 + 2);
    check.row("snow", Check.cells(x, 1, 0, 5), 4, 1, 0, 0, 0);
    check.row("pressed", Check.cells(x, 2, 0, 5), 0, 1, 0, 1, 0);
    check.row("ice", Check.cells(x, 3, 0, 5), 0, 0, 0, 0, 0);
    check.row("passed", Check.cells(x, 4, 0, 5), 0, 1, 1, 1, 0);
    check.due("walk(0) again", x.walk(0), 2 + 1 + 1);
    check.row("passed again", Check.cells(x, 4, 0, 5), 0, 2, 2, 2, 0);
    check.due("count(6)", x.count(6), 6);
    check.due("walk(-1)", x.walk(-1), SnowPaths.BAD);
    check.due("walk(1)", x.walk(1), SnowPaths.BAD);
    for (int wild : Check.WILD) {
      check.due("walk(" + wild + ")", x.walk(wild), SnowPaths.BAD);
    }
    check.due("count(6) behind refusals", x.count(6), 6);
  }

  private static void walkAroundHidden() {
    SnowPaths x = Check.walled("..o.....", "........");
    x.walker(0, 3);
    x.snows(2);
    check.due("walk(0)", x.walk(0), 5 * 3);
    check.row("passed in row 0", Check.cells(x, 4, 0, 5), 0, 1, 0, 1, 0);
    check.row("passed in row 1", Check.cells(x, 4, 8, 5), 0, 1, 1, 1, 0);
    check.due("what is hidden stays hidden", x.cell(2, 0), 2);
    check.due("and its snow lies", x.cell(2, 1), 2);
    check.due("walk(0) again: one knows of nothing", x.walk(0), 5 * 2);
    check.due("passed again", x.cell(1, 4), 2);
  }

  private static void walkBackFromHidden() {
    SnowPaths x = Check.walled("...o....", ".###....", "........");
    x.walker(0, 4);
    x.snows(1);
    check.due("walk(0)", x.walk(0), 2 + 2 + 1 + 2 + 8 * 2);
    check.row("passed in row 0", Check.cells(x, 4, 0, 6), 1, 2, 1, 0, 1, 0);
    check.row("passed in row 1", Check.cells(x, 4, 8, 6), 1, 0, 0, 0, 1, 0);
    check.row("passed in row 2", Check.cells(x, 4, 16, 6), 1, 1, 1, 1, 1, 0);
    check.row("pressed once where there was snow once", Check.cells(x, 2, 0, 3), 1, 1, 1);
  }

  private static void walkThatStops() {
    SnowPaths x = Check.walled("..o.....");
    x.walker(0, 4);
    x.walker(0, 2);
    x.walker(2, 0);
    x.walker(8, 0);
    x.walker(0, 8);
    x.snows(3);
    check.due("walk(0) until it is before it", x.walk(0), 4);
    check.due("passed", x.cell(1, 4), 1);
    check.due("snow", x.cell(1, 1), 2);
    check.due("walk(1) to a hidden one", x.walk(1), 3);
    check.due("walk(2) from a hidden one", x.walk(2), 0);
    check.due("walk(3) from a wall", x.walk(3), 0);
    check.due("walk(4) to a wall", x.walk(4), 0);
    check.due("count(6)", x.count(6), 2);
  }

  private static void walkToWhereOneIs() {
    SnowPaths x = Check.green("o#......");
    x.walker(9, 9);
    x.walker(0, 0);
    x.walker(1, 1);
    x.snows(1);
    check.due("walk(0) to where one is", x.walk(0), 0);
    check.due("count(6)", x.count(6), 0);
    check.due("only those from a wall or a hidden one stop", x.all(3), 2);
  }

  private static void pressedIsThirtyAtMost() {
    SnowPaths x = new SnowPaths();
    x.walker(0, 1);
    Check.snowOf(x, 30, 30, 30, 30, 30, 30, 30, 30, 30, 30);
    int effort = 0;
    for (int n = 0; n < 30; n++) {
      effort += x.walk(0);
    }
    check.due("effort of thirty walks", effort, 31 * 30 / 2 + 30);
    check.due("pressed by thirty", x.cell(1, 2), 30);
    check.due("snow behind thirty", x.cell(1, 1), 0);
    x.snows(5);
    check.due("walk(0) once more", x.walk(0), 6);
    check.due("pressed is 30 at most", x.cell(1, 2), 30);
    check.due("snow is less all the same", x.cell(1, 1), 4);
    check.due("passed goes on", x.cell(1, 4), 31);
  }

  private static void morning() {
    SnowPaths x = Check.walled("........");
    check.due("morning() of nobody", x.morning(), 0);
    x.walker(0, 7);
    x.walker(0, 7);
    x.walker(8, 7);
    x.walker(7, 5);
    x.snows(2);
    check.due("morning()", x.morning(), 7 * 3 + 7 * 2 + 0 + 2);
    check.row("snow", Check.cells(x, 1, 0, 8), 2, 0, 0, 0, 0, 0, 0, 0);
    check.row("pressed", Check.cells(x, 2, 0, 8), 0, 2, 2, 2, 2, 2, 2, 2);
    check.row("passed", Check.cells(x, 4, 0, 8), 0, 2, 2, 2, 2, 3, 3, 2);
    check.due("morning() again", x.morning(), 7 + 7 + 2);
    check.due("count(6)", x.count(6), 32);
  }
}
