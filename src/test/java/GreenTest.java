/** Promises 1 to 10: a new object, the green, snow, thaw, frost and shovel. */
public final class GreenTest {
  private static final Check check = new Check("GreenTest");

  public static void main(String[] args) {
    newObject();
    type();
    wipe();
    fault();
    faultAtEachPlace();
    cell();
    snows();
    thaws();
    freezes();
    clear();
    clearRefuses();
    read();
    readRefuses();
    check.end();
  }

  private static void newObject() {
    SnowPaths x = new SnowPaths();
    for (int c = 0; c < 64; c++) {
      for (int what = 0; what < 5; what++) {
        check.due("new: cell(" + c + ", " + what + ")", x.cell(c, what), 0);
      }
    }
    for (int what = 0; what < 9; what++) {
      check.due("new: count(" + what + ")", x.count(what), 0);
    }
    check.due("new: gone()", x.gone(), 0);
    for (int s = 0; s < 4; s++) {
      check.due("new: lose(" + s + ")", x.lose(s), -11);
    }
    SnowPaths other = new SnowPaths();
    x.snows(3);
    x.walker(1, 2);
    check.due("another object's snow", other.cell(0, 1), 0);
    check.due("another object's walkers", other.count(7), 0);
  }

  private static void type() {
    SnowPaths x = new SnowPaths();
    check.due("type(-1)", x.type(-1), SnowPaths.BAD);
    check.due("type(256)", x.type(256), SnowPaths.BAD);
    for (int wild : Check.WILD) {
      check.due("type(" + wild + ")", x.type(wild), SnowPaths.BAD);
    }
    check.due("count(0) behind refusals", x.count(0), 0);
    check.due("type(0)", x.type(0), 1);
    check.due("type(255)", x.type(255), 2);
    for (int n = 3; n <= 75; n++) {
      check.due("type(46), the " + n + "th", x.type('.'), n);
    }
    check.due("type(46) beyond 75", x.type('.'), SnowPaths.FULL);
    check.due("type(256) beyond 75", x.type(256), SnowPaths.BAD);
    check.due("count(0) when full", x.count(0), 75);
  }

  private static void wipe() {
    SnowPaths x = Check.green("#o");
    check.due("wipe() of a text with a fault", x.wipe(), 2 + 7 * 9);
    check.due("wipe() of nothing", x.wipe(), 0);
    check.due("count(0) when wiped", x.count(0), 0);
    Check.typeAll(x, Check.text(Check.OPEN_ROW, "#o......"));
    check.due("count(1)", x.count(1), 1);
    x.snows(2);
    x.walker(2, 3);
    check.due("wipe()", x.wipe(), 71);
    check.due("fault() when wiped", x.fault(), 0);
    check.due("count(1) when wiped", x.count(1), 0);
    check.due("count(2) when wiped", x.count(2), 0);
    check.due("cell(1, 1) when wiped", x.cell(1, 1), 2);
    check.due("count(7) when wiped", x.count(7), 1);
    check.due("type(46) when wiped", x.type('.'), 1);
  }

  private static void fault() {
    check.due("fault() of nothing", faultOf(""), 0);
    check.due("fault() of a whole green", faultOf(Check.text(Check.OPEN_ROW)), SnowPaths.NONE);
    check.due("fault() with walls", faultOf(Check.text(Check.WALL_ROW, "o.o.o.o.")), SnowPaths.NONE);
    check.due("fault() of a byte more", faultOf(Check.text(Check.OPEN_ROW) + "."), 71);
    check.due("fault() of a ; more", faultOf(Check.text(Check.OPEN_ROW) + ";"), 71);
    check.due("fault() of a short row", faultOf(".......;"), 7);
    check.due("fault() of a long row", faultOf("........."), 8);
    check.due("fault() of an O", faultOf("..O....."), 2);
    check.due("fault() of the first of two", faultOf("...x...x"), 3);
    check.due("fault() of an empty row", faultOf("........;;"), 9);
  }

  private static void faultAtEachPlace() {
    String whole = Check.text(Check.WALL_ROW);
    for (int place = 0; place < 71; place++) {
      boolean between = place % 9 == 8;
      String wrong = whole.substring(0, place) + (between ? "." : ";") + whole.substring(place + 1);
      check.due("fault() with a wrong byte at " + place, faultOf(wrong), place);
      check.due("fault() of the first " + place, faultOf(whole.substring(0, place)), place);
      SnowPaths x = new SnowPaths();
      Check.typeAll(x, wrong);
      check.due("count(1) with a fault at " + place, x.count(1), 0);
    }
  }

  private static int faultOf(String text) {
    SnowPaths x = new SnowPaths();
    Check.typeAll(x, text);
    return x.fault();
  }

  private static void cell() {
    SnowPaths x = Check.green("#.......", ".......o", "........", "........", "........", "........",
        "........", "o......#");
    check.row("kinds of row 0", Check.cells(x, 0, 0, 8), 1, 0, 0, 0, 0, 0, 0, 0);
    check.row("kinds of row 1", Check.cells(x, 0, 8, 8), 0, 0, 0, 0, 0, 0, 0, 2);
    check.row("kinds of row 7", Check.cells(x, 0, 56, 8), 2, 0, 0, 0, 0, 0, 0, 1);
    check.due("count(1)", x.count(1), 2);
    check.due("count(2)", x.count(2), 2);
    check.due("cell(-1, 0)", x.cell(-1, 0), SnowPaths.BAD);
    check.due("cell(64, 0)", x.cell(64, 0), SnowPaths.BAD);
    check.due("cell(0, -1)", x.cell(0, -1), SnowPaths.BAD);
    check.due("cell(0, 5)", x.cell(0, 5), SnowPaths.BAD);
    for (int wild : Check.WILD) {
      check.due("cell(" + wild + ", 0)", x.cell(wild, 0), SnowPaths.BAD);
      check.due("cell(0, " + wild + ")", x.cell(0, wild), SnowPaths.BAD);
    }
    x.type('.');
    check.due("cell(0, 0) with a fault", x.cell(0, 0), 0);
    check.due("cell(15, 0) with a fault", x.cell(15, 0), 0);
  }

  private static void snows() {
    SnowPaths x = Check.green("#o......");
    check.due("snows(0)", x.snows(0), 0);
    check.due("snows(9)", x.snows(9), 63);
    check.row("snow", Check.cells(x, 1, 0, 3), 0, 9, 9);
    check.due("count(3)", x.count(3), 63 * 9);
    x.snows(9);
    x.snows(9);
    x.walker(2, 3);
    x.walk(0);
    check.due("snows(2)", x.snows(2), 63);
    check.due("snows(1)", x.snows(1), 63);
    check.due("snows(5) where one is at 29", x.snows(5), 1);
    check.due("cell(3, 1)", x.cell(3, 1), 30);
    check.due("snows(9) at 30", x.snows(9), 0);
    check.due("count(3) at 30", x.count(3), 63 * 30);
    check.due("snows(-1)", x.snows(-1), SnowPaths.BAD);
    check.due("snows(10)", x.snows(10), SnowPaths.BAD);
    for (int wild : Check.WILD) {
      check.due("snows(" + wild + ")", x.snows(wild), SnowPaths.BAD);
    }
    SnowPaths later = new SnowPaths();
    later.snows(4);
    Check.typeAll(later, Check.text(Check.OPEN_ROW, "#......."));
    check.due("snow under a wall that came later", later.cell(0, 1), 4);
    check.due("snows(1) with that wall", later.snows(1), 63);
    check.due("snow under that wall", later.cell(0, 1), 4);
  }

  private static void thaws() {
    SnowPaths x = Check.walled("........");
    check.due("thaws(9) of nothing", x.thaws(9), 0);
    Check.snowOf(x, 0, 5, 1, 4);
    x.walker(0, 2);
    x.walk(0);
    x.freezes();
    check.row("snow", Check.cells(x, 1, 0, 4), 0, 4, 0, 4);
    check.row("pressed", Check.cells(x, 2, 0, 4), 0, 1, 1, 0);
    check.row("ice", Check.cells(x, 3, 0, 4), 0, 1, 1, 0);
    check.due("thaws(0)", x.thaws(0), 0);
    check.due("thaws(1)", x.thaws(1), 3);
    check.row("snow behind it", Check.cells(x, 1, 0, 4), 0, 3, 0, 3);
    check.row("pressed behind it", Check.cells(x, 2, 0, 4), 0, 0, 0, 0);
    check.row("ice behind it", Check.cells(x, 3, 0, 4), 0, 0, 0, 0);
    check.due("thaws(2)", x.thaws(2), 2);
    check.due("thaws(9)", x.thaws(9), 2);
    check.due("count(3)", x.count(3), 0);
    check.due("passed stays", x.cell(1, 4), 1);
    check.due("thaws(-1)", x.thaws(-1), SnowPaths.BAD);
    check.due("thaws(10)", x.thaws(10), SnowPaths.BAD);
    for (int wild : Check.WILD) {
      check.due("thaws(" + wild + ")", x.thaws(wild), SnowPaths.BAD);
    }
    thawsOneKindAlone();
  }

  private static void thawsOneKindAlone() {
    SnowPaths x = new SnowPaths();
    Check.snowOf(x, 0, 2);
    x.walker(0, 1);
    x.walk(0);
    x.walk(0);
    check.due("thaws(1) of pressed alone", x.thaws(1), 1);
    check.due("pressed", x.cell(1, 2), 1);
    check.due("thaws(1) of the last that is pressed", x.thaws(1), 1);
    Check.snowOf(x, 1, 1);
    check.due("thaws(0) of it", x.thaws(0), 0);
    x.walk(0);
    x.freezes();
    x.clear(1, 1);
    Check.snowOf(x, 0, 0, 0);
    check.due("thaws(1) of ice alone", x.thaws(1), 1);
    check.due("ice", x.cell(1, 3), 0);
    check.due("thaws(1) of nothing", x.thaws(1), 0);
    Check.snowOf(x, 2);
    check.due("thaws(1) of the first cell", x.thaws(1), 1);
    check.due("its snow", x.cell(0, 1), 1);
  }

  private static void freezes() {
    SnowPaths x = Check.walled("........");
    check.due("freezes() of nothing", x.freezes(), 0);
    Check.snowOf(x, 0, 3, 3);
    x.walker(0, 2);
    x.walker(0, 1);
    x.walk(0);
    x.walk(1);
    check.due("freezes()", x.freezes(), 2);
    check.row("ice", Check.cells(x, 3, 0, 3), 0, 2, 1);
    check.row("pressed stays", Check.cells(x, 2, 0, 3), 0, 2, 1);
    check.row("snow stays", Check.cells(x, 1, 0, 3), 0, 1, 2);
    x.clear(1, 3);
    check.due("ice where it was cleared", x.cell(1, 3), 2);
    x.walk(0);
    check.due("freezes() again", x.freezes(), 1);
    check.row("ice is what is pressed now", Check.cells(x, 3, 0, 3), 0, 0, 2);
  }

  private static void clear() {
    SnowPaths x = Check.green("........", "........", "...o....");
    Check.snowOf(x, 1, 2, 3, 4, 5, 6, 7, 8, 9, 10, 11, 12, 13, 14, 15, 16, 17, 18, 19, 20);
    check.due("clear(9, 0)", x.clear(9, 0), 10);
    check.due("to the north", x.cell(1, 1), 12);
    check.due("clear(10, 1)", x.clear(10, 1), 11);
    check.due("to the east", x.cell(11, 1), 23);
    check.due("clear(11, 2), more than fits, onto a hidden one", x.clear(11, 2), 23);
    check.due("to the south", x.cell(19, 1), 30);
    check.due("clear(19, 3), a hidden one", x.clear(19, 3), 30);
    check.due("to the west", x.cell(18, 1), 30);
    check.row("what was cleared", new int[] {x.cell(9, 1), x.cell(10, 1), x.cell(11, 1), x.cell(19, 1)},
        0, 0, 0, 0);
    x.walker(0, 1);
    x.walk(0);
    x.walk(0);
    x.freezes();
    check.due("clear(1, 2) with pressed", x.clear(1, 2), 12);
    check.due("snow of it", x.cell(1, 1), 0);
    check.due("pressed of it", x.cell(1, 2), 0);
    check.due("ice of it stays", x.cell(1, 3), 2);
    check.due("passed of it stays", x.cell(1, 4), 2);
    check.due("thrown as snow", x.cell(9, 1), 12);
    check.due("thrown not as pressed", x.cell(9, 2), 0);
    check.due("clear(1, 2) of nothing", x.clear(1, 2), 0);
  }

  private static void clearRefuses() {
    SnowPaths x = Check.green("........", ".#......");
    x.snows(1);
    check.due("clear(1, 2) onto a wall", x.clear(1, 2), SnowPaths.NOT);
    check.due("clear(9, 0) of a wall", x.clear(9, 0), SnowPaths.NOT);
    check.due("clear(0, 0) beyond", x.clear(0, 0), SnowPaths.NOT);
    check.due("clear(7, 0) beyond", x.clear(7, 0), SnowPaths.NOT);
    check.due("clear(56, 2) beyond", x.clear(56, 2), SnowPaths.NOT);
    check.due("clear(15, 1) beyond", x.clear(15, 1), SnowPaths.NOT);
    check.due("clear(56, 3) beyond", x.clear(56, 3), SnowPaths.NOT);
    check.due("clear(7, 1) beyond", x.clear(7, 1), SnowPaths.NOT);
    check.due("clear(63, 2) beyond", x.clear(63, 2), SnowPaths.NOT);
    check.due("clear(8, 3) beyond", x.clear(8, 3), SnowPaths.NOT);
    check.due("clear(-1, 0)", x.clear(-1, 0), SnowPaths.BAD);
    check.due("clear(64, 0)", x.clear(64, 0), SnowPaths.BAD);
    check.due("clear(9, -1), bad ahead of not", x.clear(9, -1), SnowPaths.BAD);
    check.due("clear(9, 4), bad ahead of not", x.clear(9, 4), SnowPaths.BAD);
    for (int wild : Check.WILD) {
      check.due("clear(" + wild + ", 0)", x.clear(wild, 0), SnowPaths.BAD);
      check.due("clear(0, " + wild + ")", x.clear(0, wild), SnowPaths.BAD);
    }
    check.due("snow behind refusals", x.count(3), 63);
    check.due("no finding", x.count(8), 0);
  }

  private static void read() {
    SnowPaths x = new SnowPaths();
    x.snows(7);
    x.sheet(0, 0, 5);
    Check.fill(x, 0, 0, 0, 30, 31, 2, 3);
    check.due("read(0) up to a 31", x.read(0), 2);
    check.row("snow", Check.cells(x, 1, 0, 4), 0, 30, 7, 7);
    x.lay(0, 0, 2, -1);
    check.due("read(0) up to a -1", x.read(0), 2);
    x.lay(0, 0, 2, 256 + 5);
    check.due("read(0) of all", x.read(0), 5);
    check.row("snow of all", Check.cells(x, 1, 0, 6), 0, 30, 5, 2, 3, 7);
    x.sheet(1, 1, 64);
    x.lay(1, 1, 63, 4);
    check.due("read(1) of 64 shorts", x.read(1), 64);
    check.due("snow of it", x.count(3), 4);
    x.sheet(2, 2, 2);
    Check.fill(x, 2, 2, Integer.MIN_VALUE, 3);
    check.due("read(2) of none that may be", x.read(2), 0);
    x.sheet(2, 2, 0);
    check.due("read(2) of no items", x.read(2), 0);
    check.due("snow behind it", x.count(3), 4);
    SnowPaths walls = Check.walled();
    Check.snowOf(walls, 6);
    check.due("snow read onto a wall", walls.cell(0, 1), 6);
  }

  private static void readRefuses() {
    SnowPaths x = new SnowPaths();
    check.due("read(-1)", x.read(-1), SnowPaths.BAD);
    check.due("read(4)", x.read(4), SnowPaths.BAD);
    for (int wild : Check.WILD) {
      check.due("read(" + wild + ")", x.read(wild), SnowPaths.BAD);
    }
    check.due("no finding yet", x.count(8), 0);
    check.due("read(3) of a lost one", x.read(3), -11);
    check.due("the finding", x.count(8), 1);
  }
}
