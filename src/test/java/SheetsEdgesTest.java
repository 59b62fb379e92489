import java.math.BigInteger;
import java.util.ArrayList;
import java.util.List;

/** Sentences on sheets and findings and of promises 29 to 36 that name a boundary. */
public final class SheetsEdgesTest {
  private static final Check check = new Check("SheetsEdgesTest");
  private static final int BAD = SnowPaths.BAD, NONE = SnowPaths.NONE;
  private static final int NULL = -11, INDEX = -12, CAST = -13, STORE = -14, SIZE = -15;
  private static final int LEAST = Integer.MIN_VALUE;
  private static final int MOST = Integer.MAX_VALUE;

  public static void main(String[] args) {
    noneToSixtyFour();
    noughtsAtFirst();
    aNewRow();
    sizeBelowNothing();
    fourSheets();
    lostAndEmpty();
    loseTwice();
    lowestBits();
    treatedAsOfAForm();
    noSuchItem();
    leastIntAsAnItem();
    gotten();
    copiedAll();
    copiedNone();
    copiedAsTheyWere();
    copiedOfEachForm();
    copiedToAndFromLost();
    copiedNotSoMany();
    copiedWrapped();
    writtenAsManyAsThereAre();
    writtenOfNobodyAndEight();
    writtenNotOntoLost();
    counts();
    countsOfFullGreens();
    latestFinding();
    digestOfNothing();
    digestOfWalls();
    digestOfOneWalk();
    digestOfFalls();
    digestLeavesOut();
    check.end();
  }

  private static void noneToSixtyFour() {
    check.says("SHEETS .. of 0 to 64 items; BAD: above 64");
    for (int form = 0; form < 3; form++) {
      SnowPaths x = new SnowPaths();
      for (int n = 0; n <= 64; n++) {
        check.due("sheet(0, " + form + ", " + n + ")", x.sheet(0, form, n), n);
        check.due("the item behind the last of " + n, x.lay(0, form, n, 1), INDEX);
        if (n > 0) {
          check.due("the last item of " + n, x.lay(0, form, n - 1, 1), 1);
        }
      }
      for (int n : new int[] {65, 66, 128, 256, 65536, MOST}) {
        check.due("sheet(0, " + form + ", " + n + ")", x.sheet(0, form, n), BAD);
        check.due("sheet(1, " + form + ", " + n + ")", x.sheet(1, form, n), BAD);
      }
      check.due("what was there", x.get(0, form, 63), 1);
      check.due("and as many", x.lose(0), 64);
      check.due("what was not there", x.lose(1), NULL);
    }
  }

  private static void noughtsAtFirst() {
    check.says("a row of a FORM .. items (0 at first)");
    for (int form = 0; form < 3; form++) {
      SnowPaths x = new SnowPaths();
      x.sheet(form, form, 64);
      check.row("items of form " + form, Check.items(x, form, form, 64), new int[64]);
    }
  }

  private static void aNewRow() {
    check.says("A SHEET is a new row of a FORM with n items");
    for (int form = 0; form < 3; form++) {
      SnowPaths x = new SnowPaths();
      x.sheet(0, form, 4);
      Check.fill(x, 0, form, 1, 2, 3, 4);
      x.sheet(0, form, 4);
      check.row("the same again", Check.items(x, 0, form, 4), 0, 0, 0, 0);
      Check.fill(x, 0, form, 1, 2, 3, 4);
      x.sheet(0, form, 2);
      x.sheet(0, form, 4);
      check.row("less and more again", Check.items(x, 0, form, 4), 0, 0, 0, 0);
      Check.fill(x, 0, form, 1, 2, 3, 4);
      x.lose(0);
      x.sheet(0, (form + 1) % 3, 4);
      check.row("lost and of another form", Check.items(x, 0, (form + 1) % 3, 4), 0, 0, 0, 0);
      check.due("the former form", x.lay(0, form, 0, 1), CAST);
    }
  }

  private static void sizeBelowNothing() {
    check.says("FINDINGS: 5 SIZE: below 0");
    SnowPaths x = new SnowPaths();
    x.sheet(0, 1, 3);
    x.lay(0, 1, 2, 8);
    for (int n : new int[] {-1, -2, -64, -65, -256, -65536, LEAST, LEAST + 1, LEAST + 64}) {
      x.lose(1);
      check.due("sheet(0, 1, " + n + ")", x.sheet(0, 1, n), SIZE);
      check.due("count(8)", x.count(8), 5);
      check.due("sheet(1, 1, " + n + ")", x.sheet(1, 1, n), SIZE);
    }
    check.due("what was there", x.get(0, 1, 2), 8);
    check.due("and as many", x.lose(0), 3);
    check.due("what was lost", x.lose(1), NULL);
  }

  private static void fourSheets() {
    check.says("SHEETS 0 .. 3");
    SnowPaths x = new SnowPaths();
    for (int s = 0; s < 4; s++) {
      x.sheet(s, 2, s + 1);
      x.lay(s, 2, s, 100 + s);
    }
    for (int s = 0; s < 4; s++) {
      check.due("get(" + s + ", 2, " + s + ")", x.get(s, 2, s), 100 + s);
      check.due("lose(" + s + ")", x.lose(s), s + 1);
      check.due("count(8)", x.count(8), 0);
    }
    for (int s : new int[] {-1, 4, 5, 256, LEAST, LEAST + 1, MOST}) {
      check.due("sheet(" + s + ", 0, 1)", x.sheet(s, 0, 1), BAD);
      check.due("lose(" + s + ")", x.lose(s), BAD);
      check.due("lay(" + s + ", 0, 0, 1)", x.lay(s, 0, 0, 1), BAD);
      check.due("get(" + s + ", 0, 0)", x.get(s, 0, 0), LEAST);
      check.due("write(" + s + ")", x.write(s), BAD);
      check.due("read(" + s + ")", x.read(s), BAD);
    }
    check.due("count(8)", x.count(8), 0);
  }

  private static void lostAndEmpty() {
    check.says("SHEETS are LOST (at first) or a row: one of no items is not LOST");
    SnowPaths x = new SnowPaths();
    x.sheet(0, 1, 0);
    check.row("of no items", new int[] {x.read(0), x.write(0), x.tower(0, 0), x.copy(0, 0, 0, 0, 0), x.lay(0, 1, 0, 1),
        x.lay(0, 0, 0, 1), x.lose(0)}, 0, 0, 1, 1, INDEX, CAST, 0);
    check.row("lost", new int[] {x.read(0), x.write(0), x.tower(0, 0), x.copy(0, 0, 0, 0, 0), x.lay(0, 1, 0, 1),
        x.lay(0, 0, 0, 1), x.lose(0)}, NULL, NULL, NULL, NULL, NULL, NULL, NULL);
  }

  private static void loseTwice() {
    check.says("It is LOST: how many items it had. BAD; NULL.");
    SnowPaths x = new SnowPaths();
    for (int n : new int[] {0, 1, 64}) {
      x.sheet(2, 0, n);
      check.due("lose(2) of " + n, x.lose(2), n);
      check.due("lose(2) again", x.lose(2), NULL);
      check.due("count(8)", x.count(8), 1);
      check.due("get(2, 0, 0)", x.get(2, 0, 0), LEAST);
    }
  }

  private static void lowestBits() {
    check.says("Item i becomes v (the lowest bits that it has): 1");
    SnowPaths x = new SnowPaths();
    for (int form = 0; form < 3; form++) {
      x.sheet(form, form, 1);
    }
    int[] values = {0, 1, -1, 127, 128, 129, 255, 256, 257, -127, -128, -129, -255, -256, -257, 32767, 32768, 32769, 65535,
        65536, 65537, -32768, -32769, -65536, LEAST, LEAST + 1, MOST, MOST - 1};
    for (int v : values) {
      long bits = v & 0xffffffffL;
      check.due("lay a byte " + v, x.lay(0, 0, 0, v), 1);
      check.due("get the byte of " + v, x.get(0, 0, 0), signed(bits, 256));
      check.due("lay a short " + v, x.lay(1, 1, 0, v), 1);
      check.due("get the short of " + v, x.get(1, 1, 0), signed(bits, 65536));
      check.due("lay an int " + v, x.lay(2, 2, 0, v), 1);
      check.due("get the int of " + v, x.get(2, 2, 0), signed(bits, 1L << 32));
    }
    check.due("count(8)", x.count(8), 0);
  }

  private static long signed(long bits, long all) {
    long low = bits % all;
    return low >= all / 2 ? low - all : low;
  }

  private static void treatedAsOfAForm() {
    check.says("FINDINGS: 3 CAST: it has another FORM");
    for (int own = 0; own < 3; own++) {
      SnowPaths x = new SnowPaths();
      x.sheet(0, own, 2);
      x.lay(0, own, 1, 77);
      for (int form = 0; form < 3; form++) {
        x.lose(3);
        check.due("lay(0, " + form + ", 1, 9) of form " + own, x.lay(0, form, 1, form == own ? 77 : 9), form == own ? 1 : CAST);
        check.due("count(8)", x.count(8), form == own ? 1 : 3);
        x.lose(3);
        check.due("get(0, " + form + ", 1) of form " + own, x.get(0, form, 1), form == own ? 77 : LEAST);
        check.due("count(8)", x.count(8), form == own ? 1 : 3);
      }
      check.due("what was there", x.get(0, own, 1), 77);
    }
  }

  private static void noSuchItem() {
    check.says("FINDINGS: 2 INDEX: there is no such item");
    for (int size : new int[] {0, 1, 2, 63, 64}) {
      SnowPaths x = new SnowPaths();
      x.sheet(1, 0, size);
      for (int i : new int[] {-1, size, size + 1, 65, 256, 65536, LEAST, LEAST + 1, MOST}) {
        x.lose(0);
        check.due("lay(1, 0, " + i + ", 1) of " + size, x.lay(1, 0, i, 1), INDEX);
        check.due("count(8)", x.count(8), 2);
        x.lose(0);
        check.due("get(1, 0, " + i + ") of " + size, x.get(1, 0, i), LEAST);
        check.due("count(8)", x.count(8), 2);
      }
      for (int i = 0; i < size; i += Math.max(1, size - 1)) {
        check.due("lay(1, 0, " + i + ", 5) of " + size, x.lay(1, 0, i, 5), 1);
        check.due("get(1, 0, " + i + ") of " + size, x.get(1, 0, i), 5);
      }
    }
  }

  private static void leastIntAsAnItem() {
    check.says("get: BAD: the least int; so are NULL, CAST, INDEX (count() 8 tells)");
    SnowPaths x = new SnowPaths();
    x.sheet(0, 2, 1);
    x.lay(0, 2, 0, LEAST);
    check.due("get(0, 2, 0)", x.get(0, 2, 0), LEAST);
    check.due("it is no finding", x.count(8), 0);
    check.due("get(1, 2, 0)", x.get(1, 2, 0), LEAST);
    check.due("it is one", x.count(8), 1);
    check.due("get(0, 2, 0)", x.get(0, 2, 0), LEAST);
    check.due("and is still the latest", x.count(8), 1);
    check.due("get(0, 2, 1)", x.get(0, 2, 1), LEAST);
    check.due("the next", x.count(8), 2);
    check.due("get(0, 0, 0)", x.get(0, 0, 0), LEAST);
    check.due("the next", x.count(8), 3);
    check.due("get(4, 0, 0)", x.get(4, 0, 0), LEAST);
    check.due("get(0, 3, 0)", x.get(0, 3, 0), LEAST);
    check.due("bad ones are no findings", x.count(8), 3);
  }

  private static void gotten() {
    check.says("Item i of it.");
    SnowPaths x = new SnowPaths();
    x.sheet(0, 1, 64);
    for (int i = 0; i < 64; i++) {
      x.lay(0, 1, i, 1000 - i);
    }
    for (int i = 0; i < 64; i++) {
      check.due("get(0, 1, " + i + ")", x.get(0, 1, i), 1000 - i);
    }
  }

  private static SnowPaths counted(int form, int n, int m) {
    SnowPaths x = new SnowPaths();
    x.sheet(0, form, n);
    x.sheet(1, form, m);
    for (int i = 0; i < n; i++) {
      x.lay(0, form, i, i + 1);
    }
    return x;
  }

  private static void copiedAll() {
    check.says("n items of SHEET s, from i on, come to SHEET t, from j on: 1");
    SnowPaths x = counted(2, 64, 64);
    check.due("copy(0, 0, 1, 0, 64)", x.copy(0, 0, 1, 0, 64), 1);
    check.row("all", Check.items(x, 1, 2, 3), 1, 2, 3);
    check.due("the last", x.get(1, 2, 63), 64);
    check.due("copy(0, 63, 1, 0, 1)", x.copy(0, 63, 1, 0, 1), 1);
    check.due("copy(0, 0, 1, 63, 1)", x.copy(0, 0, 1, 63, 1), 1);
    check.row("the ends", new int[] {x.get(1, 2, 0), x.get(1, 2, 1), x.get(1, 2, 62), x.get(1, 2, 63)}, 64, 2, 63, 1);
    check.due("copy(0, 0, 0, 0, 64) of all onto itself", x.copy(0, 0, 0, 0, 64), 1);
    check.due("copy(0, 0, 1, 0, 65)", x.copy(0, 0, 1, 0, 65), INDEX);
  }

  private static void copiedNone() {
    check.says("copy: n items (none)");
    SnowPaths x = counted(0, 3, 0);
    int[][] fits = {{0, 0}, {1, 0}, {2, 0}, {3, 0}};
    for (int[] f : fits) {
      check.due("copy(0, " + f[0] + ", 1, " + f[1] + ", 0)", x.copy(0, f[0], 1, f[1], 0), 1);
    }
    check.due("copy(1, 0, 1, 0, 0) of no items", x.copy(1, 0, 1, 0, 0), 1);
    check.due("count(8)", x.count(8), 0);
    int[][] off = {{-1, 0}, {4, 0}, {0, -1}, {0, 1}, {MOST, 0}, {0, LEAST}, {LEAST, LEAST}};
    for (int[] f : off) {
      check.due("copy(0, " + f[0] + ", 1, " + f[1] + ", 0)", x.copy(0, f[0], 1, f[1], 0), INDEX);
    }
    check.row("what was there", Check.items(x, 0, 0, 3), 1, 2, 3);
  }

  private static void copiedAsTheyWere() {
    check.says("to SHEET t (perhaps s, as they were)");
    SnowPaths x = counted(1, 6, 1);
    x.copy(0, 0, 0, 1, 5);
    check.row("one on", Check.items(x, 0, 1, 6), 1, 1, 2, 3, 4, 5);
    SnowPaths y = counted(1, 6, 1);
    y.copy(0, 1, 0, 0, 5);
    check.row("one back", Check.items(y, 0, 1, 6), 2, 3, 4, 5, 6, 6);
    SnowPaths z = counted(1, 6, 1);
    z.copy(0, 0, 0, 3, 3);
    check.row("side by side", Check.items(z, 0, 1, 6), 1, 2, 3, 1, 2, 3);
  }

  private static void copiedOfEachForm() {
    check.says("FINDINGS: 4 STORE: unlike FORMS");
    for (int from = 0; from < 3; from++) {
      for (int to = 0; to < 3; to++) {
        SnowPaths x = new SnowPaths();
        x.sheet(0, from, 2);
        x.sheet(1, to, 2);
        x.lay(0, from, 0, 5);
        check.due("copy of form " + from + " to " + to, x.copy(0, 0, 1, 1, 1), from == to ? 1 : STORE);
        check.due("count(8)", x.count(8), from == to ? 0 : 4);
        check.due("the item", x.get(1, to, 1), from == to ? 5 : 0);
        check.due("copy of none", x.copy(0, 0, 1, 1, 0), from == to ? 1 : STORE);
      }
    }
  }

  private static void copiedToAndFromLost() {
    check.says("copy: NULL: s, t");
    SnowPaths x = counted(0, 2, 2);
    check.due("from a lost one", x.copy(2, 0, 0, 0, 1), NULL);
    check.due("to a lost one", x.copy(0, 0, 2, 0, 1), NULL);
    check.due("from and to a lost one", x.copy(2, 0, 3, 0, 1), NULL);
    check.due("none, from a lost one", x.copy(3, 0, 0, 0, 0), NULL);
    check.due("count(8)", x.count(8), 1);
    check.due("it is lost still", x.lose(2), NULL);
    check.row("what was there", Check.items(x, 0, 0, 2), 1, 2);
  }

  private static void copiedNotSoMany() {
    check.says("copy: INDEX: below 0, not so many");
    for (int i = -1; i <= 4; i++) {
      for (int j = -1; j <= 3; j++) {
        for (int n = -1; n <= 4; n++) {
          SnowPaths x = counted(2, 3, 2);
          boolean fits = i >= 0 && j >= 0 && n >= 0 && i + n <= 3 && j + n <= 2;
          check.due("copy(0, " + i + ", 1, " + j + ", " + n + ")", x.copy(0, i, 1, j, n), fits ? 1 : INDEX);
          check.due("count(8)", x.count(8), fits ? 0 : 2);
          int[] due = new int[2];
          for (int k = 0; fits && k < n; k++) {
            due[j + k] = i + k + 1;
          }
          check.row("what is there", Check.items(x, 1, 2, 2), due);
        }
      }
    }
  }

  private static void copiedWrapped() {
    check.says("copy: INDEX: not so many (sums that wrap)");
    int[] wild = {LEAST, LEAST + 1, LEAST + 2, -2, -1, MOST - 1, MOST};
    SnowPaths x = counted(2, 2, 2);
    for (int a : wild) {
      for (int b : wild) {
        check.due("copy(0, " + a + ", 1, 0, " + b + ")", x.copy(0, a, 1, 0, b), INDEX);
        check.due("copy(0, 0, 1, " + a + ", " + b + ")", x.copy(0, 0, 1, a, b), INDEX);
        check.due("copy(0, " + a + ", 1, " + b + ", 1)", x.copy(0, a, 1, b, 1), INDEX);
        check.due("copy(0, 1, 1, 1, " + a + ")", x.copy(0, 1, 1, 1, a), INDEX);
      }
    }
    check.row("nothing came", Check.items(x, 1, 2, 2), 0, 0);
  }

  private static void writtenAsManyAsThereAre() {
    check.says("comes to a SHEET from item 0 on, as many as there are items and CELLS: how many");
    for (int form = 0; form < 3; form++) {
      for (int size : new int[] {0, 1, 2, 63, 64}) {
        SnowPaths x = new SnowPaths();
        x.walker(62, 63);
        x.walker(1, 0);
        x.walker(1, 0);
        x.sheet(0, form, size);
        for (int i = 0; i < size; i++) {
          x.lay(0, form, i, 99);
        }
        check.due("write(0) of " + size, x.write(0), size);
        int[] due = new int[size];
        for (int i = 0; i < size; i++) {
          due[i] = i == 0 ? 2 : i == 63 ? 1 : 0;
        }
        check.row("items of form " + form, Check.items(x, 0, form, size), due);
      }
    }
  }

  private static void writtenOfNobodyAndEight() {
    check.says("How often each CELL would be PASSED by a MORNING");
    SnowPaths x = Check.walled("...o....", ".###....", "........");
    x.sheet(0, 0, 4);
    Check.fill(x, 0, 0, 9, 9, 9, 9);
    check.due("write(0) of nobody", x.write(0), 4);
    check.row("items", Check.items(x, 0, 0, 4), 0, 0, 0, 0);
    Check.send(x, 8, 0, 4);
    x.snows(2);
    x.walk(0);
    check.due("write(0) of eight", x.write(0), 4);
    check.row("items, not what was passed before", Check.items(x, 0, 0, 4), 8, 16, 8, 0);
    check.due("nobody went", x.count(6), 12);
    check.due("no snow is trodden", x.count(4), 12);
  }

  private static void writtenNotOntoLost() {
    check.says("write: BAD; NULL.");
    SnowPaths x = new SnowPaths();
    x.walker(0, 1);
    check.due("write(0)", x.write(0), NULL);
    check.due("count(8)", x.count(8), 1);
    check.due("it is lost still", x.lose(0), NULL);
    check.due("write(4)", x.write(4), BAD);
    check.due("write(-1)", x.write(-1), BAD);
  }

  private static void counts() {
    check.says("count: 0 bytes .. 8 the number of the latest FINDING. BAD.");
    SnowPaths x = new SnowPaths();
    x.snows(9);
    for (int what : new int[] {-1, 9, 10, 256, 264, LEAST, LEAST + 1, MOST}) {
      check.due("count(" + what + ")", x.count(what), BAD);
    }
    int[] due = {0, 0, 0, 576, 0, 0, 0, 0, 0};
    for (int what = 0; what <= 8; what++) {
      check.due("count(" + what + ")", x.count(what), due[what]);
    }
  }

  private static void countsOfFullGreens() {
    check.says("count: 1 WALLS, 2 HIDDEN ones");
    check.row("of an open one", new int[] {Check.full('.').count(1), Check.full('.').count(2)}, 0, 0);
    check.row("of walls alone", new int[] {Check.full('#').count(1), Check.full('#').count(2)}, 64, 0);
    check.row("of hidden ones alone", new int[] {Check.full('o').count(1), Check.full('o').count(2)}, 0, 64);
    SnowPaths x = Check.full('#');
    x.type('#');
    check.row("with a fault", new int[] {x.count(0), x.count(1), x.count(2)}, 72, 0, 0);
    for (int n = 0; n < 5; n++) {
      x.snows(9);
    }
    check.due("all the snow there can be", x.count(3), 1920);
    Check.send(x, 9, 0, 1);
    check.due("all the walkers there can be", x.count(7), 8);
  }

  private static void latestFinding() {
    check.says("count: 8 the number of the latest FINDING (0 before any)");
    SnowPaths x = new SnowPaths();
    x.sheet(0, 0, 1);
    x.sheet(1, 1, 1);
    check.due("before any", x.count(8), 0);
    x.sheet(2, 0, -1);
    check.due("size", x.count(8), 5);
    x.copy(0, 0, 1, 0, 1);
    check.due("store", x.count(8), 4);
    x.lay(0, 1, 0, 1);
    check.due("cast", x.count(8), 3);
    x.lay(0, 0, 1, 1);
    check.due("index", x.count(8), 2);
    x.lose(2);
    check.due("null", x.count(8), 1);
    x.copy(0, 0, 0, 0, 2);
    check.due("index by copy", x.count(8), 2);
    x.snows(10);
    x.clear(0, 0);
    x.first(0);
    x.lay(0, 0, 0, 1);
    x.wipe();
    x.gone();
    x.lose(0);
    check.due("what is no finding leaves it", x.count(8), 2);
  }

  /** h as it would be without end, and only then as a long. */
  private static long digest(List<Long> each) {
    BigInteger h = BigInteger.valueOf(17);
    for (long e : each) {
      h = h.multiply(BigInteger.valueOf(31)).add(BigInteger.valueOf(e));
    }
    return h.longValue();
  }

  private static void add(List<Long> all, long... each) {
    for (long e : each) {
      all.add(e);
    }
  }

  private static void digestOfNothing() {
    check.says("digest: h is 17; h becomes 31 h and each of ..; as longs that wrap");
    List<Long> all = new ArrayList<>();
    add(all, 0, 0, 0, 0, 0, 0, 0, 0);
    add(all, 0);
    add(all, new long[64 * 5]);
    add(all, 0, 0, 0, 0);
    add(all, 0);
    add(all, -3, -3);
    add(all, -1, 0);
    add(all, 0, 1, 0, 1);
    check.due("digest() of a new object", new SnowPaths().digest(), digest(all));
  }

  private static void digestOfWalls() {
    check.says("digest: count() 0 to 7; fault(); of CELLS cell() 0 to 4; of WALKERS straight(), plan()");
    List<Long> all = new ArrayList<>();
    add(all, 71, 64, 0, 0, 0, 0, 0, 8);
    add(all, -1);
    for (int c = 0; c < 64; c++) {
      add(all, 1, 0, 0, 0, 0);
    }
    for (int w = 0; w < 8; w++) {
      add(all, NONE, NONE);
    }
    add(all, 0, 0, 0, 8);
    add(all, 0);
    add(all, 0, 0);
    add(all, -1, 0);
    add(all, 0, 1, 0, 1);
    SnowPaths x = Check.full('#');
    Check.send(x, 8, 0, 63);
    check.due("digest() of eight among walls", x.digest(), digest(all));
  }

  /** Snow 4 on 1 and 2: a walker went around by 8, 9, 10 to 2, and would do so again. */
  private static void digestOfOneWalk() {
    check.says("digest: all() 0 to 3, longer(), first() 0, 1, yard() 0, 1, falls(), left(2), above and below each");
    SnowPaths x = Check.walled("...o....", "........");
    Check.snowOf(x, 0, 4, 4);
    x.walker(0, 2);
    x.walker(1, 0);
    x.walk(0);
    x.freezes();
    List<Long> all = new ArrayList<>();
    add(all, 71, 48, 1, 4 + 3, 1, 1, 4, 2);
    add(all, -1);
    for (int c = 0; c < 64; c++) {
      int kind = c == 3 ? 2 : c < 16 ? 0 : 1;
      int snow = c == 1 ? 4 : c == 2 ? 3 : 0;
      int pressed = c == 2 ? 1 : 0;
      int passed = c == 2 || c >= 8 && c <= 10 ? 1 : 0;
      add(all, kind, snow, pressed, pressed, passed);
    }
    add(all, 2, 3 + 4);
    add(all, 1, 1);
    add(all, 7 + 1, 4 + 1, 5, 0);
    add(all, 4 - 2);
    add(all, 0, 8);
    add(all, 2, 3);
    add(all, 1, 30, 0, 1);
    check.due("digest()", x.digest(), digest(all));
  }

  private static void digestOfFalls() {
    check.says("digest: falls(), left(2), above and below each");
    List<Long> all = new ArrayList<>();
    add(all, 0, 0, 0, 50, 14, 14, 14, 1);
    add(all, 0);
    long[] cells = new long[64 * 5];
    for (int c = 0; c < 64; c++) {
      cells[5 * c + 1] = 1;
    }
    for (int c : FallsEdgesTest.STAIRS) {
      cells[5 * c + 1] = 0;
      cells[5 * c + 2] = 1;
      cells[5 * c + 3] = 1;
      cells[5 * c + 4] = 1;
    }
    add(all, cells);
    add(all, 14, 14);
    add(all, 14, 14, 14, 0);
    add(all, 0);
    add(all, 0, 14);
    add(all, -1, 0);
    add(all, 7, 15, 2, 5);
    check.due("digest() with ice on fourteen", FallsEdgesTest.fourteen().digest(), digest(all));
  }

  private static void digestLeavesOut() {
    check.says("digest: count() 0 to 7 (not 8)");
    SnowPaths x = new SnowPaths();
    long before = x.digest();
    x.lose(0);
    check.due("digest() behind a finding", x.digest(), before);
    x.sheet(0, 2, 64);
    x.lay(0, 2, 5, 6);
    check.due("digest() with a sheet", x.digest(), before);
    x.type('.');
    check.due("digest() with a byte is another", x.digest() != before);
  }
}
