/** Sentences of part 1 and of promises 1 to 10 that name a boundary, each with a test of its own. */
public final class GreenEdgesTest {
  private static final Check check = new Check("GreenEdgesTest");
  private static final int BAD = SnowPaths.BAD, NOT = SnowPaths.NOT, FULL = SnowPaths.FULL, NONE = SnowPaths.NONE;
  private static final int NULL = -11;
  private static final int OPEN = 0, WALL = 1, HIDDEN = 2;

  public static void main(String[] args) {
    aNewObject();
    seventyOneBytes();
    signs();
    rowByRow();
    faultAtTheEnd();
    faultFirstOfMany();
    allOpenWithAFault();
    seventyFiveAtMost();
    wiped();
    wipedLeavesNothing();
    nothingAtFirst();
    directions();
    snowsBy();
    snowsOnNoWall();
    snowsThirtyAtMost();
    thawsBy();
    thawsNotBelowNothing();
    thawsOfSomething();
    freezesOnEachCell();
    freezesToLess();
    freezesAtThirty();
    clearedThirtyAtMost();
    clearedOfSixty();
    clearedNot();
    readAsLongAsEachMayBe();
    readSixtyFour();
    readOfEachForm();
    readOfNone();
    check.end();
  }

  private static SnowPaths typed(String text) {
    SnowPaths x = new SnowPaths();
    Check.typeAll(x, text);
    return x;
  }

  private static void aNewObject() {
    check.says("All is open, no SNOW, nobody; all SHEETS are LOST.");
    SnowPaths x = new SnowPaths();
    check.due("fault()", x.fault(), 0);
    check.due("plan(0, 63, -1)", x.plan(0, 63, -1), 14);
    check.due("walk(0)", x.walk(0), BAD);
    check.due("straight(0)", x.straight(0), BAD);
    check.due("first(0)", x.first(0), NOT);
    check.due("morning()", x.morning(), 0);
    check.due("wipe()", x.wipe(), 0);
    check.due("thaws(9)", x.thaws(9), 0);
    check.due("freezes()", x.freezes(), 0);
    check.due("count(8)", x.count(8), 0);
    for (int s = 0; s < 4; s++) {
      check.due("read(" + s + ")", x.read(s), NULL);
      check.due("write(" + s + ")", x.write(s), NULL);
      check.due("tower(" + s + ", 0)", x.tower(s, 0), NULL);
      check.due("copy of " + s, x.copy(s, 0, s, 0, 0), NULL);
      for (int form = 0; form < 3; form++) {
        check.due("lay(" + s + ", " + form + ", 0, 1)", x.lay(s, form, 0, 1), NULL);
      }
    }
  }

  private static void seventyOneBytes() {
    check.says("THE GREEN is a text of eight rows of eight signs, ; between rows (71 bytes)");
    String whole = Check.text("#o.#o.#o");
    check.due("its bytes", whole.length(), 71);
    check.due("fault() of 70", typed(whole.substring(0, 70)).fault(), 70);
    check.due("fault() of 71", typed(whole).fault(), NONE);
    for (String more : new String[] {".", ";", "#", "o", ";.", "....", ";..."}) {
      check.due("fault() of 71 and " + more, typed(whole + more).fault(), 71);
    }
    check.due("fault() of seven rows and a ;", typed(whole.substring(0, 63)).fault(), 63);
    check.due("fault() with a row of seven", typed(whole.substring(1)).fault(), 7);
    check.due("fault() with a row of nine", typed("." + whole).fault(), 8);
    check.due("fault() with the last row of seven", typed(whole.substring(0, 70) + ";").fault(), 70);
    check.due("fault() with a ; ahead", typed(";" + whole).fault(), 0);
    check.due("fault() of two ;", typed(whole.substring(0, 9) + ";").fault(), 9);
  }

  private static void signs() {
    check.says(". open, # a WALL, o HIDDEN (open to the eye)");
    String whole = Check.text(Check.OPEN_ROW);
    for (int place : new int[] {0, 7, 8, 9, 62, 63, 70}) {
      for (int b = 0; b < 256; b++) {
        boolean fits = place % 9 == 8 ? b == ';' : b == '.' || b == '#' || b == 'o';
        SnowPaths x = typed(whole.substring(0, place));
        x.type(b);
        Check.typeAll(x, whole.substring(place + 1));
        check.due("fault() with byte " + b + " at " + place, x.fault(), fits ? NONE : place);
      }
    }
    check.due("open to the eye: plan(0, 2, -1)", Check.green(".o......").plan(0, 2, -1), 2);
  }

  private static void rowByRow() {
    check.says("CELLS are 0 to 63, row by row.");
    for (int c = 0; c < 64; c++) {
      SnowPaths wall = Check.fullBut('.', c, '#');
      SnowPaths hidden = Check.fullBut('#', c, 'o');
      check.row("count(1), (2) with a wall at " + c, new int[] {wall.count(1), wall.count(2)}, 1, 0);
      check.row("count(1), (2) with one hidden at " + c, new int[] {hidden.count(1), hidden.count(2)}, 63, 1);
      for (int d = 0; d < 64; d++) {
        check.due("cell(" + d + ", 0), a wall at " + c, wall.cell(d, 0), d == c ? WALL : OPEN);
        check.due("cell(" + d + ", 0), one hidden at " + c, hidden.cell(d, 0), d == c ? HIDDEN : WALL);
      }
    }
  }

  private static void faultAtTheEnd() {
    check.says("(of a shorter one its end)");
    SnowPaths x = new SnowPaths();
    String whole = Check.text("o.o.#.#.");
    for (int n = 0; n < 71; n++) {
      check.due("fault() of " + n, x.fault(), n);
      x.type(whole.charAt(n));
    }
    check.due("fault() of all", x.fault(), NONE);
  }

  private static void faultFirstOfMany() {
    check.says("The FAULT is the place of the first byte with which it cannot go on");
    StringBuilder b = new StringBuilder(Check.text(Check.OPEN_ROW));
    for (int place = 70; place >= 0; place--) {
      b.setCharAt(place, 'x');
      check.due("fault() with x from " + place + " on", typed(b.toString()).fault(), place);
    }
    check.due("fault() of an x alone", typed("x").fault(), 0);
    check.due("fault() of a sign and an x", typed(".x").fault(), 1);
  }

  private static void allOpenWithAFault() {
    check.says("With a FAULT all is open.");
    String whole = Check.text(Check.WALL_ROW, "oooooooo");
    SnowPaths x = typed(whole.substring(0, 70));
    walledOrOpen(x, "without the last byte", 0, 0);
    x.type('#');
    walledOrOpen(x, "with the last byte", 56, 8);
    for (int n = 72; n <= 75; n++) {
      x.type('#');
      walledOrOpen(x, "with " + n + " bytes", 0, 0);
    }
    x.type('#');
    walledOrOpen(x, "with a byte refused", 0, 0);
    check.due("plan(0, 63, -1) with a fault", x.plan(0, 63, -1), 14);
    check.due("plan(0, 63, 0), from what was hidden", x.plan(0, 63, 0), 1);
    check.due("snows(1) with a fault", x.snows(1), 64);
  }

  private static void walledOrOpen(SnowPaths x, String when, int walls, int hidden) {
    check.due("count(1) " + when, x.count(1), walls);
    check.due("count(2) " + when, x.count(2), hidden);
    check.due("cell(0, 0) " + when, x.cell(0, 0), hidden > 0 ? HIDDEN : OPEN);
    check.due("cell(63, 0) " + when, x.cell(63, 0), walls > 0 ? WALL : OPEN);
  }

  private static void seventyFiveAtMost() {
    check.says("A byte (0 to 255) comes behind THE GREEN (75 at most): how many. BAD; FULL.");
    SnowPaths x = typed(Check.text(Check.WALL_ROW));
    check.due("the 72nd", x.type(0), 72);
    check.due("the 73rd", x.type(255), 73);
    check.due("the 74th", x.type(0), 74);
    check.due("the 75th", x.type('.'), 75);
    check.due("the 76th", x.type('.'), FULL);
    check.due("the 76th again", x.type('.'), FULL);
    check.due("count(0)", x.count(0), 75);
    check.due("wipe()", x.wipe(), 75);
    check.due("type() when wiped", x.type('.'), 1);
    for (int b : new int[] {-1, 256, 46 + 256, 46 - 256, 46 + 65536, Integer.MIN_VALUE + 46, Integer.MAX_VALUE}) {
      check.due("type(" + b + ")", x.type(b), BAD);
    }
    check.due("count(0) behind them", x.count(0), 1);
  }

  private static void wiped() {
    check.says("THE GREEN is empty: how many bytes it had.");
    SnowPaths x = typed(Check.text(Check.WALL_ROW));
    Check.snowOf(x, 4, 5, 6);
    x.walker(1, 1);
    x.sheet(2, 1, 7);
    x.get(0, 0, 0);
    check.due("wipe()", x.wipe(), 71);
    check.row("all that is no text stays", new int[] {x.count(3), x.count(7), x.lose(2), x.count(8)}, 15, 1, 7, 1);
    walledOrOpen(x, "when wiped", 0, 0);
    check.due("fault() when wiped", x.fault(), 0);
    check.due("wipe() again", x.wipe(), 0);
    Check.typeAll(x, Check.text(Check.OPEN_ROW));
    check.due("fault() of another text", x.fault(), NONE);
    check.due("count(1) of another text", x.count(1), 0);
  }

  private static void wipedLeavesNothing() {
    check.says("THE GREEN is empty (nothing of a longer text is left behind a shorter one)");
    for (char sign : new char[] {'#', 'o', ';', 'x'}) {
      SnowPaths x = typed(String.valueOf(sign).repeat(75));
      x.wipe();
      Check.typeAll(x, Check.text(Check.OPEN_ROW));
      check.due("fault() behind 75 of " + sign, x.fault(), NONE);
      check.row("kinds behind 75 of " + sign, Check.cells(x, 0, 0, 64), new int[64]);
      x.wipe();
      x.type('.');
      check.due("fault() of one behind 71", x.fault(), 1);
    }
  }

  private static void nothingAtFirst() {
    check.says("A CELL has SNOW (0 to 30; 0 at first), PRESSED (0 to 30; 0), ICE (0 to 30; 0), PASSED (0)");
    for (char sign : new char[] {'.', '#', 'o'}) {
      SnowPaths x = Check.full(sign);
      for (int what = 1; what <= 4; what++) {
        check.row("cell(.., " + what + ") of " + sign, Check.cells(x, what, 0, 64), new int[64]);
      }
    }
  }

  private static void directions() {
    check.says("0 north (8 less), 1 east (1 more, in the same row), 2 south (8 more), 3 west (1 less)");
    for (int c = 0; c < 64; c++) {
      int row = c / 8;
      int column = c % 8;
      thrown(c, 0, row > 0 ? c - 8 : NONE);
      thrown(c, 1, column < 7 ? c + 1 : NONE);
      thrown(c, 2, row < 7 ? c + 8 : NONE);
      thrown(c, 3, column > 0 ? c - 1 : NONE);
    }
  }

  private static void thrown(int from, int direction, int to) {
    SnowPaths x = new SnowPaths();
    x.snows(3);
    String told = "clear(" + from + ", " + direction + ")";
    check.due(told, x.clear(from, direction), to == NONE ? NOT : 3);
    for (int c = 0; c < 64; c++) {
      int due = to == NONE ? 3 : c == from ? 0 : c == to ? 6 : 3;
      check.due(told + ", then cell(" + c + ", 1)", x.cell(c, 1), due);
    }
  }

  private static void snowsBy() {
    check.says("SNOWS: by n (0 to 9)");
    for (int n = 0; n <= 9; n++) {
      SnowPaths x = new SnowPaths();
      check.due("snows(" + n + ")", x.snows(n), n == 0 ? 0 : 64);
      check.due("cell(0, 1)", x.cell(0, 1), n);
      check.due("cell(63, 1)", x.cell(63, 1), n);
      check.due("snows(" + n + ") again", x.snows(n), n == 0 ? 0 : 64);
      check.due("count(3)", x.count(3), 128 * n);
    }
    SnowPaths y = new SnowPaths();
    for (int n : new int[] {-1, 10, Integer.MIN_VALUE, Integer.MAX_VALUE, 256, 265, -9}) {
      check.due("snows(" + n + ")", y.snows(n), BAD);
    }
    check.due("count(3) behind them", y.count(3), 0);
  }

  private static void snowsOnNoWall() {
    check.says("on each CELL that is no WALL: how many CELLS have more");
    check.due("snows(9) on walls alone", Check.full('#').snows(9), 0);
    check.due("snows(9) on hidden ones alone", Check.full('o').snows(9), 64);
    for (int c : new int[] {0, 7, 8, 63}) {
      SnowPaths one = Check.fullBut('#', c, '.');
      check.due("snows(9) on " + c + " alone", one.snows(9), 1);
      check.due("its snow", one.cell(c, 1), 9);
      check.due("all snow", one.count(3), 9);
      SnowPaths but = Check.fullBut('.', c, '#');
      check.due("snows(9) not on " + c, but.snows(9), 63);
      check.due("its snow", but.cell(c, 1), 0);
    }
  }

  private static void snowsThirtyAtMost() {
    check.says("SNOWS: 30 at most");
    SnowPaths x = new SnowPaths();
    Check.snowOf(x, 20, 21, 22, 28, 29, 30);
    check.due("snows(9), all but one have more", x.snows(9), 63);
    check.row("snow", Check.cells(x, 1, 0, 7), 29, 30, 30, 30, 30, 30, 9);
    check.due("snows(1)", x.snows(1), 64 - 5);
    check.row("snow", Check.cells(x, 1, 0, 7), 30, 30, 30, 30, 30, 30, 10);
    check.due("snows(9), without the six", x.snows(9), 58);
    check.due("snows(9)", x.snows(9), 58);
    check.due("snows(9) up to thirty", x.snows(9), 58);
    check.due("snows(9) at thirty", x.snows(9), 0);
    check.due("count(3)", x.count(3), 64 * 30);
    check.due("count(4) is not made by it", x.count(4), 0);
  }

  /** Snow 9, pressed 3, ice 5 on cell 1 and nothing elsewhere. */
  private static SnowPaths layered() {
    SnowPaths x = new SnowPaths();
    x.walker(0, 1);
    Check.snowOf(x, 0, 5);
    for (int n = 0; n < 5; n++) {
      x.walk(0);
    }
    x.freezes();
    x.clear(1, 3);
    Check.snowOf(x, 0, 3);
    for (int n = 0; n < 3; n++) {
      x.walk(0);
    }
    Check.snowOf(x, 0, 9);
    return x;
  }

  private static void thawsBy() {
    check.says("THAWS: by n (0 to 9): SNOW, PRESSED, ICE less, 0 at least");
    for (int n = 0; n <= 9; n++) {
      SnowPaths x = layered();
      check.row("what lies there", new int[] {x.cell(1, 1), x.cell(1, 2), x.cell(1, 3)}, 9, 3, 5);
      check.due("thaws(" + n + ")", x.thaws(n), n == 0 ? 0 : 1);
      check.row("behind thaws(" + n + ")", new int[] {x.cell(1, 1), x.cell(1, 2), x.cell(1, 3)},
          9 - n, Math.max(0, 3 - n), Math.max(0, 5 - n));
      check.due("passed", x.cell(1, 4), 8);
    }
    SnowPaths y = layered();
    for (int n : new int[] {-1, 10, Integer.MIN_VALUE, Integer.MAX_VALUE, 256, 265, -9}) {
      check.due("thaws(" + n + ")", y.thaws(n), BAD);
    }
    check.row("behind them", new int[] {y.count(3), y.count(4), y.count(5)}, 9, 3, 5);
  }

  private static void thawsNotBelowNothing() {
    check.says("THAWS: 0 at least");
    SnowPaths x = new SnowPaths();
    Check.snowOf(x, 0, 1, 8, 9, 10, 30);
    check.due("thaws(9)", x.thaws(9), 5);
    check.row("snow", Check.cells(x, 1, 0, 6), 0, 0, 0, 0, 1, 21);
    check.due("thaws(9)", x.thaws(9), 2);
    check.due("thaws(9)", x.thaws(9), 1);
    check.due("thaws(2)", x.thaws(2), 1);
    check.due("thaws(1) of the last", x.thaws(1), 1);
    check.due("thaws(1) of nothing", x.thaws(1), 0);
    check.due("count(3)", x.count(3), 0);
  }

  private static void thawsOfSomething() {
    check.says("It THAWS: how many CELLS have less of something.");
    SnowPaths x = layered();
    check.due("thaws(1) of snow, pressed and ice", x.thaws(1), 1);
    x.clear(1, 1);
    check.row("ice alone, and snow beside it", new int[] {x.cell(1, 3), x.cell(2, 1)}, 4, 10);
    check.due("thaws(1) of ice and of snow", x.thaws(1), 2);
    SnowPaths whole = new SnowPaths();
    whole.snows(1);
    check.due("thaws(1) of all", whole.thaws(1), 64);
    SnowPaths under = new SnowPaths();
    under.snows(2);
    Check.typeAll(under, Check.text(Check.WALL_ROW));
    check.due("thaws(1) under walls", under.thaws(1), 64);
    check.due("count(3) under walls", under.count(3), 64);
  }

  private static void freezesOnEachCell() {
    check.says("FREEZES: ICE becomes PRESSED, on each CELL: how many CELLS have ICE then");
    SnowPaths x = new SnowPaths();
    x.snows(9);
    pressRows(x);
    check.due("count(4)", x.count(4), 2 * 48 + 16);
    check.due("freezes() of all", x.freezes(), 64);
    check.due("cell(0, 3)", x.cell(0, 3), 1);
    check.due("cell(63, 3)", x.cell(63, 3), 1);
    check.due("cell(1, 3)", x.cell(1, 3), 2);
    check.due("count(5)", x.count(5), 2 * 48 + 16);
    Check.typeAll(x, Check.text(Check.WALL_ROW));
    x.thaws(1);
    check.due("freezes() under walls", x.freezes(), 48);
  }

  /** Each row is gone through to and fro: its ends are come onto once, what is between them twice. */
  private static void pressRows(SnowPaths x) {
    for (int row = 0; row < 8; row++) {
      x.walker(8 * row, 8 * row + 7);
    }
    x.morning();
    x.gone();
    for (int row = 0; row < 8; row++) {
      x.walker(8 * row + 7, 8 * row);
    }
    x.morning();
    x.gone();
  }

  private static void freezesToLess() {
    check.says("FREEZES: ICE becomes PRESSED (less of it too)");
    SnowPaths x = layered();
    check.due("freezes() to less", x.freezes(), 1);
    check.row("ice, pressed, snow", new int[] {x.cell(1, 3), x.cell(1, 2), x.cell(1, 1)}, 3, 3, 9);
    x.clear(1, 3);
    check.due("freezes() to nothing", x.freezes(), 0);
    check.due("ice", x.cell(1, 3), 0);
    check.due("freezes() of nothing", x.freezes(), 0);
  }

  private static void freezesAtThirty() {
    check.says("PRESSED (0 to 30), ICE (0 to 30)");
    SnowPaths x = new SnowPaths();
    x.walker(0, 1);
    Check.snowOf(x, 0, 30);
    for (int n = 1; n <= 30; n++) {
      x.walk(0);
      check.due("pressed by " + n, x.cell(1, 2), n);
    }
    check.due("freezes()", x.freezes(), 1);
    check.due("ice", x.cell(1, 3), 30);
    Check.snowOf(x, 0, 30);
    x.walk(0);
    check.due("pressed at most", x.cell(1, 2), 30);
    x.freezes();
    check.due("ice at most", x.cell(1, 3), 30);
  }

  private static void clearedThirtyAtMost() {
    check.says("SNOW of that next to it in a DIRECTION is more by both (30 at most); what does not fit is gone");
    int[][] rows = {{0, 0, 0}, {0, 30, 30}, {1, 29, 30}, {2, 29, 30}, {1, 30, 30}, {30, 30, 30}, {30, 0, 30}, {15, 14, 29}};
    for (int[] r : rows) {
      SnowPaths x = new SnowPaths();
      Check.snowOf(x, r[0], r[1]);
      check.due("clear(0, 1) of " + r[0] + " onto " + r[1], x.clear(0, 1), r[0]);
      check.due("snow there", x.cell(1, 1), r[2]);
      check.due("snow here", x.cell(0, 1), 0);
      check.due("all snow", x.count(3), r[2]);
    }
  }

  private static void clearedOfSixty() {
    check.says("a CELL's SNOW and PRESSED are 0; SNOW of that next to it is more by both");
    SnowPaths x = new SnowPaths();
    x.walker(0, 1);
    Check.snowOf(x, 0, 30);
    for (int n = 0; n < 30; n++) {
      x.walk(0);
    }
    x.freezes();
    Check.snowOf(x, 0, 30);
    check.due("clear(1, 2) of thirty and thirty", x.clear(1, 2), 60);
    check.row("cell 1", new int[] {x.cell(1, 1), x.cell(1, 2), x.cell(1, 3), x.cell(1, 4)}, 0, 0, 30, 30);
    check.row("cell 9", new int[] {x.cell(9, 1), x.cell(9, 2), x.cell(9, 3), x.cell(9, 4)}, 30, 0, 0, 0);
    Check.snowOf(x, 0, 1);
    x.walk(0);
    check.due("clear(1, 1) of one pressed", x.clear(1, 1), 1);
    check.due("it is snow there", x.cell(2, 1), 1);
    check.due("clear(1, 1) of nothing", x.clear(1, 1), 0);
  }

  private static void clearedNot() {
    check.says("NOT: it is a WALL, or there is none, or a WALL, there.");
    SnowPaths x = Check.fullBut('.', 27, '#');
    x.snows(1);
    check.row("onto the wall", new int[] {x.clear(35, 0), x.clear(26, 1), x.clear(19, 2), x.clear(28, 3)},
        NOT, NOT, NOT, NOT);
    check.row("of the wall", new int[] {x.clear(27, 0), x.clear(27, 1), x.clear(27, 2), x.clear(27, 3)},
        NOT, NOT, NOT, NOT);
    check.row("beside the wall", new int[] {x.clear(35, 2), x.clear(26, 3), x.clear(19, 0), x.clear(28, 1)}, 1, 1, 1, 1);
    check.due("all snow", x.count(3), 63);
    SnowPaths hidden = Check.full('o');
    hidden.snows(1);
    check.due("of a hidden one onto a hidden one", hidden.clear(27, 0), 1);
    SnowPaths walls = Check.full('#');
    check.due("of a wall onto none", walls.clear(0, 0), NOT);
  }

  private static void readAsLongAsEachMayBe() {
    check.says("item by item (0 to 30), as long as each may be: how many");
    for (int off : new int[] {-1, 31, 256, -256, Integer.MIN_VALUE, Integer.MAX_VALUE}) {
      for (int place = 0; place < 3; place++) {
        SnowPaths x = new SnowPaths();
        x.snows(9);
        x.sheet(0, 2, 3);
        Check.fill(x, 0, 2, 0, 30, 1);
        x.lay(0, 2, place, off);
        check.due("read(0) with " + off + " at " + place, x.read(0), place);
        check.row("snow", Check.cells(x, 1, 0, 4), place > 0 ? 0 : 9, place > 1 ? 30 : 9, 9, 9);
        check.due("it is no finding", x.count(8), 0);
      }
    }
    SnowPaths y = new SnowPaths();
    y.sheet(0, 2, 2);
    Check.fill(y, 0, 2, 30, 0);
    check.due("read(0) of 30 and 0", y.read(0), 2);
    check.row("snow", Check.cells(y, 1, 0, 2), 30, 0);
  }

  private static void readSixtyFour() {
    check.says("SNOW of CELLS 0 on by a SHEET, 64 at most");
    for (int size : new int[] {0, 1, 63, 64}) {
      SnowPaths x = new SnowPaths();
      x.snows(3);
      x.sheet(1, 0, size);
      for (int i = 0; i < size; i++) {
        x.lay(1, 0, i, 30);
      }
      check.due("read(1) of " + size, x.read(1), size);
      check.due("count(3)", x.count(3), 30 * size + 3 * (64 - size));
      check.due("cell(63, 1)", x.cell(63, 1), size == 64 ? 30 : 3);
      check.due("cell(0, 1)", x.cell(0, 1), size == 0 ? 3 : 30);
    }
  }

  private static void readOfEachForm() {
    check.says("read: SHEETS of each FORM");
    for (int form = 0; form < 3; form++) {
      SnowPaths x = new SnowPaths();
      x.sheet(form, form, 3);
      Check.fill(x, form, form, 30, 256 + 5, 65536 + 6);
      check.due("read(" + form + ")", x.read(form), form == 0 ? 3 : 1);
      check.row("snow", Check.cells(x, 1, 0, 3), 30, form == 0 ? 5 : 0, form == 0 ? 6 : 0);
      Check.fill(x, form, form, 1, 2, 65536 + 6);
      check.due("read(" + form + ")", x.read(form), form < 2 ? 3 : 2);
      Check.fill(x, form, form, 1, 128);
      check.due("read(" + form + ") with 128", x.read(form), 1);
    }
  }

  private static void readOfNone() {
    check.says("read: BAD; NULL.");
    SnowPaths x = new SnowPaths();
    x.sheet(2, 1, 0);
    check.due("read(2) of no items", x.read(2), 0);
    check.due("count(8)", x.count(8), 0);
    x.lose(2);
    check.due("read(2) when lost", x.read(2), NULL);
    check.due("count(8)", x.count(8), 1);
    check.due("read(-1)", x.read(-1), BAD);
    check.due("read(4)", x.read(4), BAD);
  }
}
