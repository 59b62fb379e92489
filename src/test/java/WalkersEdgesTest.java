/** Sentences of part 2 on plans and walks, and of promises 11 to 15, that name a boundary. */
public final class WalkersEdgesTest {
  private static final Check check = new Check("WalkersEdgesTest");
  private static final int BAD = SnowPaths.BAD, FULL = SnowPaths.FULL, NONE = SnowPaths.NONE;
  private static final int MOST = Integer.MAX_VALUE;

  public static void main(String[] args) {
    eightAtMost();
    fromAndTo();
    gone();
    wadeCosts();
    planWithoutWalls();
    planOfLikeOnes();
    planThroughHidden();
    planNumber();
    planOfNoWay();
    planFromWallOrHidden();
    planToWhereOneIs();
    walkUntilHidden();
    walkToHidden();
    walkKnowsNothingOfBefore();
    walkBetweenHidden();
    walkCostsWhatItDoesThen();
    trodden();
    pressedThirtyAtMost();
    startIsNotTrodden();
    whatWasGoneIsGone();
    walkFromWallOrHidden();
    walkToWhereOneIs();
    walkerNumbers();
    morningAsTheyAreNumbered();
    morningOfNobodyAndEight();
    check.end();
  }

  private static void eightAtMost() {
    check.says("WALKERS, 8 at most: a WALKER more: the number. BAD; FULL.");
    SnowPaths x = new SnowPaths();
    for (int round = 0; round < 2; round++) {
      for (int n = 0; n < 8; n++) {
        check.due("walker(0, 1)", x.walker(0, 1), n);
        check.due("count(7)", x.count(7), n + 1);
      }
      check.due("the ninth", x.walker(2, 3), FULL);
      check.due("the ninth again", x.walker(2, 3), FULL);
      check.due("count(7)", x.count(7), 8);
      check.due("all(1) of eight", x.all(1), 8);
      check.due("gone()", x.gone(), 8);
    }
  }

  private static void fromAndTo() {
    check.says("WALKERS: from a CELL to a CELL");
    SnowPaths x = Check.full('#');
    check.due("from a wall to itself", x.walker(0, 0), 0);
    check.due("to the last", x.walker(0, 63), 1);
    check.due("from the last", x.walker(63, 0), 2);
    check.due("a like one", x.walker(63, 0), 3);
    for (int off : new int[] {-1, 64, Integer.MIN_VALUE, MOST, 256, -64}) {
      check.due("walker(" + off + ", 0)", x.walker(off, 0), BAD);
      check.due("walker(0, " + off + ")", x.walker(0, off), BAD);
      check.due("walker(" + off + ", " + off + ")", x.walker(off, off), BAD);
    }
    check.due("count(7)", x.count(7), 4);
    check.due("from a hidden one", Check.full('o').walker(5, 6), 0);
  }

  private static void gone() {
    check.says("All WALKERS are gone: how many there were.");
    SnowPaths x = new SnowPaths();
    check.due("gone() of nobody", x.gone(), 0);
    x.walker(0, 1);
    check.due("gone() of one", x.gone(), 1);
    check.due("gone() again", x.gone(), 0);
    check.due("walk(0)", x.walk(0), BAD);
    check.due("straight(0)", x.straight(0), BAD);
    check.due("morning()", x.morning(), 0);
    check.due("walker(8, 9)", x.walker(8, 9), 0);
    check.due("straight(1)", x.straight(1), BAD);
  }

  private static void wadeCosts() {
    check.says("To WADE onto a CELL costs 1 and its SNOW.");
    for (int snow = 0; snow <= 30; snow++) {
      SnowPaths x = new SnowPaths();
      Check.snowOf(x, 30, snow);
      check.due("plan(0, 1, -1) in " + snow, x.plan(0, 1, -1), 1 + snow);
      x.walker(0, 1);
      check.due("walk(0) in " + snow, x.walk(0), 1 + snow);
    }
  }

  private static void planWithoutWalls() {
    check.says("CELL by CELL next to one another, no WALL");
    SnowPaths x = Check.green("........", "########", "........");
    check.due("plan(0, 7, -1)", x.plan(0, 7, -1), 7);
    check.due("plan(0, 16, -1)", x.plan(0, 16, -1), NONE);
    check.due("plan(16, 0, -1)", x.plan(16, 0, -1), NONE);
    SnowPaths corner = Check.green(".#......", "#.......");
    check.due("not over a corner", corner.plan(0, 9, -1), NONE);
    SnowPaths edge = Check.walled(".......#", "........");
    check.due("not from a row's end to the next row's start", edge.plan(6, 8, -1), 7);
    SnowPaths gap = Check.green(".......#", "#.......");
    check.due("plan(0, 63, -1) by the one gap there is", gap.plan(0, 63, -1), 14);
  }

  private static void planOfLikeOnes() {
    check.says("of like ones the least row of DIRECTIONS");
    SnowPaths ring = Check.green("........", "........", "..#.....");
    check.row("around to the south", Check.planned(ring, 10, 26), 11, 19, 27, 26);
    check.row("around to the north", Check.planned(ring, 26, 10), 27, 19, 11, 10);
    check.row("around to the east", Check.planned(ring, 17, 19), 9, 10, 11, 19);
    check.row("around to the west", Check.planned(ring, 19, 17), 11, 10, 9, 17);
    SnowPaths x = new SnowPaths();
    check.row("all to the east first", Check.planned(x, 0, 18), 1, 2, 10, 18);
    check.row("all to the north first", Check.planned(x, 18, 0), 10, 2, 1, 0);
    check.row("north, then east", Check.planned(x, 16, 2), 8, 0, 1, 2);
    check.row("south, then west", Check.planned(x, 2, 16), 10, 18, 17, 16);
  }

  private static void planThroughHidden() {
    check.says("PLAN by one who knows of nothing HIDDEN");
    SnowPaths x = Check.walled(".oooooo.");
    check.due("plan(0, 7, -1)", x.plan(0, 7, -1), 7);
    check.due("plan(0, 7, 0)", x.plan(0, 7, 0), 1);
    check.due("plan(0, 6, -1) to a hidden one", x.plan(0, 6, -1), 6);
    check.due("plan(1, 7, -1) from a hidden one", x.plan(1, 7, -1), NONE);
    x.walker(0, 7);
    x.walk(0);
    check.due("plan(0, 7, -1) once somebody was there", x.plan(0, 7, -1), 7);
  }

  private static void planNumber() {
    check.says("what it costs (i = NONE), the i-th CELL that one comes onto (0 on; NONE beyond)");
    SnowPaths x = new SnowPaths();
    x.snows(1);
    check.due("plan(0, 2, -1)", x.plan(0, 2, -1), 4);
    check.due("plan(0, 2, 0)", x.plan(0, 2, 0), 1);
    check.due("plan(0, 2, 1)", x.plan(0, 2, 1), 2);
    for (int beyond : new int[] {2, 3, 63, 64, 65, 256, 65536, MOST}) {
      check.due("plan(0, 2, " + beyond + ")", x.plan(0, 2, beyond), NONE);
    }
    for (int off : new int[] {-2, -3, -64, Integer.MIN_VALUE, Integer.MIN_VALUE + 1}) {
      check.due("plan(0, 2, " + off + ")", x.plan(0, 2, off), BAD);
    }
  }

  private static void planOfNoWay() {
    check.says("plan: NONE: there is none.");
    SnowPaths x = Check.green(".#......", "#.......");
    for (int i : new int[] {-1, 0, 1, 63, 64, MOST}) {
      check.due("plan(0, 63, " + i + ")", x.plan(0, 63, i), NONE);
      check.due("plan(63, 0, " + i + ")", x.plan(63, 0, i), NONE);
      check.due("plan(63, 1, " + i + ") to a wall", x.plan(63, 1, i), NONE);
    }
    check.due("plan(0, 63, -2)", x.plan(0, 63, -2), BAD);
  }

  private static void planFromWallOrHidden() {
    check.says("(From a CELL that is a WALL or HIDDEN there is none.)");
    for (char sign : new char[] {'#', 'o'}) {
      SnowPaths x = Check.fullBut('.', 27, sign);
      for (int to : new int[] {0, 26, 28, 19, 35, 63, 27}) {
        check.due("plan(27, " + to + ", -1) from " + sign, x.plan(27, to, -1), NONE);
        check.due("plan(27, " + to + ", 0) from " + sign, x.plan(27, to, 0), NONE);
      }
      x.type('.');
      check.due("plan(27, 28, -1) with a fault", x.plan(27, 28, -1), 1);
      check.due("plan(27, 27, -1) with a fault", x.plan(27, 27, -1), 0);
    }
  }

  private static void planToWhereOneIs() {
    check.says("To the CELL where one is: nothing.");
    SnowPaths x = new SnowPaths();
    x.snows(9);
    for (int c : new int[] {0, 7, 8, 27, 63}) {
      check.due("plan(" + c + ", " + c + ", -1)", x.plan(c, c, -1), 0);
      check.due("plan(" + c + ", " + c + ", 0)", x.plan(c, c, 0), NONE);
    }
  }

  private static void walkUntilHidden() {
    check.says("goes on by that until the next CELL is HIDDEN: now one knows that, and PLANS again from where one is");
    SnowPaths first = Check.walled(".o......", "........");
    first.walker(0, 2);
    check.due("walk(0), the first cell is hidden", first.walk(0), 4);
    check.row("passed in row 0", Check.cells(first, 4, 0, 4), 0, 0, 1, 0);
    check.row("passed in row 1", Check.cells(first, 4, 8, 4), 1, 1, 1, 0);
    SnowPaths last = Check.walled("...o....", "........", "........");
    last.walker(0, 11);
    check.due("walk(0), hidden beside the end", last.walk(0), 2 + 2);
    check.row("passed in row 0", Check.cells(last, 4, 0, 4), 0, 1, 1, 0);
    check.row("passed in row 1", Check.cells(last, 4, 8, 4), 0, 0, 1, 1);
    SnowPaths beside = Check.walled("........", "oooooooo");
    beside.walker(0, 7);
    check.due("walk(0) beside hidden ones that are not next on it", beside.walk(0), 7);
  }

  private static void walkToHidden() {
    check.says("One STOPS, when there is no PLAN (any more): to a CELL that is HIDDEN");
    SnowPaths x = Check.walled("...o....", "........");
    x.snows(1);
    x.walker(0, 3);
    check.due("walk(0)", x.walk(0), 2 * 2);
    check.row("passed", Check.cells(x, 4, 0, 8), 0, 1, 1, 0, 0, 0, 0, 0);
    check.due("all(3)", x.all(3), 1);
    check.due("straight(0)", x.straight(0), NONE);
    SnowPaths near = Check.walled(".o......");
    near.walker(0, 1);
    check.due("walk(0) to a hidden one next to it", near.walk(0), 0);
    check.due("count(6)", near.count(6), 0);
    check.due("all(3)", near.all(3), 1);
  }

  private static void walkKnowsNothingOfBefore() {
    check.says("A WALK: one knows of nothing HIDDEN");
    SnowPaths x = Check.walled("...o....", ".###....", "........");
    x.walker(0, 4);
    x.walker(0, 4);
    check.due("walk(0)", x.walk(0), 12);
    check.due("walk(0) again, no shorter", x.walk(0), 12);
    check.due("walk(1), by another", x.walk(1), 12);
    check.due("morning()", x.morning(), 24);
    check.due("passed in front of it", x.cell(2, 4), 5);
  }

  private static void walkBetweenHidden() {
    check.says("One STOPS, when there is no PLAN (any more)");
    SnowPaths x = Check.green("........", "...o....", "..o.o...", "...o....");
    x.walker(19, 63);
    x.snows(3);
    check.due("plan(19, 63, -1)", x.plan(19, 63, -1), 9 * 4);
    check.due("walk(0) with hidden ones all around", x.walk(0), 0);
    check.due("count(6)", x.count(6), 0);
    check.due("all(3)", x.all(3), 1);
    SnowPaths all = Check.fullBut('o', 27, '.');
    all.walker(27, 0);
    all.walker(27, 27);
    all.walker(26, 27);
    check.due("walk(0) with all else hidden", all.walk(0), 0);
    check.due("all(3): who is there does not stop", all.all(3), 2);
    SnowPaths row = new SnowPaths();
    Check.typeAll(row, Check.text("oooooooo", "........"));
    row.walker(0, 63);
    check.due("walk(0) along a row of hidden ones, to and fro", row.walk(0), 14);
    check.row("passed", Check.cells(row, 4, 0, 8), 1, 2, 2, 2, 2, 2, 2, 1);
    check.due("count(6)", row.count(6), 14);
    check.due("all(3)", row.all(3), 1);
  }

  private static void walkCostsWhatItDoesThen() {
    check.says("Each CELL that one comes onto costs what it does then (EFFORT), and is trodden");
    SnowPaths x = Check.walled("...o....", ".###....", "........");
    x.snows(3);
    x.walker(0, 4);
    check.due("walk(0), to and fro", x.walk(0), 4 + 4 + 3 + 4 + 8 * 4);
    check.row("snow", Check.cells(x, 1, 0, 3), 2, 1, 2);
    check.row("pressed", Check.cells(x, 2, 0, 3), 1, 2, 1);
    check.row("passed", Check.cells(x, 4, 0, 3), 1, 2, 1);
    SnowPaths thin = Check.walled("...o....", ".###....", "........");
    Check.snowOf(thin, 0, 1);
    thin.walker(0, 4);
    check.due("walk(0), nothing left on the way back", thin.walk(0), 2 + 1 + 1 + 1 + 8);
    check.row("pressed once", Check.cells(thin, 2, 0, 3), 0, 1, 0);
    check.row("passed twice", Check.cells(thin, 4, 0, 3), 1, 2, 1);
  }

  private static void trodden() {
    check.says("its SNOW 1 less, PRESSED 1 more (if it has SNOW), PASSED 1 more");
    SnowPaths x = Check.walled("........");
    Check.snowOf(x, 30, 0, 1, 2, 30);
    x.walker(0, 4);
    check.due("walk(0)", x.walk(0), 4 + 33);
    check.row("snow", Check.cells(x, 1, 0, 6), 30, 0, 0, 1, 29, 0);
    check.row("pressed", Check.cells(x, 2, 0, 6), 0, 0, 1, 1, 1, 0);
    check.row("passed", Check.cells(x, 4, 0, 6), 0, 1, 1, 1, 1, 0);
    check.row("ice", Check.cells(x, 3, 0, 6), 0, 0, 0, 0, 0, 0);
    check.due("walk(0) again", x.walk(0), 4 + 30);
    check.row("snow again", Check.cells(x, 1, 0, 6), 30, 0, 0, 0, 28, 0);
    check.row("pressed again", Check.cells(x, 2, 0, 6), 0, 0, 1, 2, 2, 0);
    check.row("passed again", Check.cells(x, 4, 0, 6), 0, 2, 2, 2, 2, 0);
  }

  private static void pressedThirtyAtMost() {
    check.says("PRESSED 1 more (if it has SNOW; 30 at most)");
    SnowPaths x = Check.walled("...#####");
    Check.send(x, 3, 0, 1);
    for (int n = 1; n <= 29; n++) {
      Check.snowOf(x, 0, 1);
      x.walk(0);
    }
    check.due("pressed by 29", x.cell(1, 2), 29);
    Check.snowOf(x, 0, 3);
    check.due("morning() of three", x.morning(), 4 + 3 + 2);
    check.row("snow, pressed, passed", new int[] {x.cell(1, 1), x.cell(1, 2), x.cell(1, 4)}, 0, 30, 32);
    Check.snowOf(x, 0, 30);
    x.morning();
    check.row("snow, pressed, passed", new int[] {x.cell(1, 1), x.cell(1, 2), x.cell(1, 4)}, 27, 30, 35);
  }

  private static void startIsNotTrodden() {
    check.says("Each CELL that one comes onto .. is trodden (where one starts is not)");
    SnowPaths x = Check.walled("........");
    x.snows(4);
    x.walker(0, 1);
    x.walker(1, 0);
    x.walk(0);
    check.row("cell 0", new int[] {x.cell(0, 1), x.cell(0, 2), x.cell(0, 4)}, 4, 0, 0);
    x.walk(1);
    check.row("cell 0, come back onto", new int[] {x.cell(0, 1), x.cell(0, 2), x.cell(0, 4)}, 3, 1, 1);
    check.row("cell 1", new int[] {x.cell(1, 1), x.cell(1, 2), x.cell(1, 4)}, 3, 1, 1);
  }

  private static void whatWasGoneIsGone() {
    check.says("One STOPS, when there is no PLAN (any more): what was gone is gone.");
    SnowPaths x = Check.walled(".....o..");
    x.snows(2);
    x.walker(0, 7);
    check.due("walk(0), as far as it goes", x.walk(0), 4 * 3);
    check.row("snow", Check.cells(x, 1, 0, 8), 2, 1, 1, 1, 1, 2, 2, 2);
    check.row("passed", Check.cells(x, 4, 0, 8), 0, 1, 1, 1, 1, 0, 0, 0);
    check.row("all()", new int[] {x.all(0), x.all(1), x.all(2), x.all(3)}, 8, 4, 4, 1);
    SnowPaths walls = Check.green(".#......", "#.......");
    walls.snows(2);
    walls.walker(0, 63);
    check.due("walk(0) without any plan", walls.walk(0), 0);
    check.due("count(6)", walls.count(6), 0);
  }

  private static void walkFromWallOrHidden() {
    check.says("(From a CELL that is a WALL or HIDDEN there is none.)");
    for (char sign : new char[] {'#', 'o'}) {
      SnowPaths x = Check.fullBut('.', 27, sign);
      x.snows(1);
      x.walker(27, 28);
      x.walker(27, 27);
      x.walker(28, 27);
      check.due("walk(0) from " + sign, x.walk(0), 0);
      check.due("walk(1) from " + sign + " to itself", x.walk(1), 0);
      check.due("walk(2) to " + sign, x.walk(2), 0);
      check.due("count(6)", x.count(6), 0);
      check.due("all(3)", x.all(3), 3);
    }
  }

  private static void walkToWhereOneIs() {
    check.says("To the CELL where one is: nothing.");
    SnowPaths x = new SnowPaths();
    x.snows(5);
    x.walker(0, 0);
    x.walker(63, 63);
    check.due("walk(0)", x.walk(0), 0);
    check.due("walk(1)", x.walk(1), 0);
    check.due("morning()", x.morning(), 0);
    check.row("nothing is trodden", new int[] {x.count(3), x.count(4), x.count(6)}, 320, 0, 0);
    check.due("nobody stops", x.all(3), 0);
    check.due("straight(0)", x.straight(0), 0);
  }

  private static void walkerNumbers() {
    check.says("walk: A WALKER's WALK: EFFORT; what was trodden is. BAD.");
    SnowPaths x = new SnowPaths();
    check.due("walk(0) of nobody", x.walk(0), BAD);
    for (int n = 0; n < 8; n++) {
      x.walker(8 * n, 8 * n + 1);
      check.due("walk(" + n + ")", x.walk(n), 1);
      check.due("who went", x.cell(8 * n + 1, 4), 1);
      check.due("walk(" + (n + 1) + ")", x.walk(n + 1), BAD);
      check.due("walk(-1)", x.walk(-1), BAD);
    }
    check.due("count(6)", x.count(6), 8);
  }

  private static void morningAsTheyAreNumbered() {
    check.says("MORNING: all WALKERS, one behind the other, as they are numbered.");
    SnowPaths x = WouldBeTest.lane();
    check.due("morning(), who goes around first", x.morning(), 4 + 4 + 3);
    check.row("passed", Check.cells(x, 4, 0, 3), 0, 2, 1);
    check.row("passed around", Check.cells(x, 4, 8, 3), 1, 1, 1);
    SnowPaths y = Check.walled("........", "........");
    Check.snowOf(y, 0, 3);
    y.walker(0, 1);
    y.walker(0, 1);
    y.walker(0, 2);
    check.due("morning(), who goes around last", y.morning(), 4 + 3 + 3);
    check.row("passed", Check.cells(y, 4, 0, 3), 0, 3, 1);
    check.row("passed around", Check.cells(y, 4, 8, 3), 0, 0, 0);
  }

  private static void morningOfNobodyAndEight() {
    check.says("MORNING: EFFORT of all; what was trodden is.");
    SnowPaths nobody = new SnowPaths();
    nobody.snows(3);
    check.due("morning() of nobody", nobody.morning(), 0);
    check.due("count(3)", nobody.count(3), 192);
    SnowPaths x = eight();
    SnowPaths y = eight();
    int sum = 0;
    for (int n = 0; n < 8; n++) {
      sum += y.walk(n);
    }
    check.due("morning() of eight is the walks of eight", x.morning(), sum);
    check.due("and leaves what they leave", x.digest(), y.digest());
  }

  private static SnowPaths eight() {
    SnowPaths x = Check.green("..o.....", ".#....o.", "........", "....#...", "..o.....");
    x.snows(4);
    for (int n = 0; n < 8; n++) {
      x.walker(n * 5, 63 - n * 3);
    }
    return x;
  }
}
