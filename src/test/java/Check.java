/** Counts the answers of one test that are not as due, and ends it. */
final class Check {
  static final String OPEN_ROW = "........";
  static final String WALL_ROW = "########";
  static final long LONG_BAD = Long.MIN_VALUE + 2;
  /** Numbers that no argument of any call may be, beside those just beyond its own limits. */
  static final int[] WILD = {Integer.MIN_VALUE, Integer.MIN_VALUE + 1, Integer.MAX_VALUE, -1000, 1000};

  private final String name;
  private String sentence = "";
  private int looked = 0;
  private int wrong = 0;

  Check(String name) {
    this.name = name;
  }

  /** The sentence of the document that the answers from here on are looked at for. */
  void says(String words) {
    sentence = " [" + words + "]";
  }

  void due(String call, long got, long want) {
    looked++;
    if (got != want) {
      wrong++;
      System.out.println(name + sentence + ": " + call + " answered " + got + ", due is " + want);
    }
  }

  void due(String what, boolean holds) {
    due(what, holds ? 1 : 0, 1);
  }

  /** Every item of a row of answers, in one line. */
  void row(String call, int[] got, int... want) {
    due(call + ", how many", got.length, want.length);
    for (int i = 0; i < Math.min(got.length, want.length); i++) {
      due(call + ", number " + i, got[i], want[i]);
    }
  }

  void end() {
    System.out.println(name + ": " + looked + " answers, " + wrong + " not as due");
    if (wrong != 0) {
      System.exit(1);
    }
  }

  /** A new object with a green whose rows from the given ones on are open. */
  static SnowPaths green(String... rows) {
    SnowPaths x = new SnowPaths();
    typeAll(x, text(OPEN_ROW, rows));
    return x;
  }

  /** A new object whose rows from the given ones on are walls. */
  static SnowPaths walled(String... rows) {
    SnowPaths x = new SnowPaths();
    typeAll(x, text(WALL_ROW, rows));
    return x;
  }

  static String text(String rest, String... rows) {
    StringBuilder b = new StringBuilder();
    for (int r = 0; r < 8; r++) {
      b.append(r == 0 ? "" : ";").append(r < rows.length ? rows[r] : rest);
    }
    return b.toString();
  }

  static void typeAll(SnowPaths x, String text) {
    for (int i = 0; i < text.length(); i++) {
      x.type(text.charAt(i));
    }
  }

  /** A new object with a green all of one sign. */
  static SnowPaths full(char sign) {
    SnowPaths x = new SnowPaths();
    typeAll(x, text(String.valueOf(sign).repeat(8)));
    return x;
  }

  /** A new object with a green of one sign but for one cell. */
  static SnowPaths fullBut(char sign, int cell, char other) {
    SnowPaths x = new SnowPaths();
    StringBuilder b = new StringBuilder(text(String.valueOf(sign).repeat(8)));
    b.setCharAt(cell + cell / 8, other);
    typeAll(x, b.toString());
    return x;
  }

  /** So many walkers who go from a cell to a cell. */
  static void send(SnowPaths x, int number, int from, int to) {
    for (int n = 0; n < number; n++) {
      x.walker(from, to);
    }
  }

  /** Lays the values as the snow of cells 0 on, by sheet 3, which is lost again. */
  static void snowOf(SnowPaths x, int... values) {
    x.sheet(3, 2, values.length);
    fill(x, 3, 2, values);
    x.read(3);
    x.lose(3);
  }

  static void fill(SnowPaths x, int s, int form, int... values) {
    for (int i = 0; i < values.length; i++) {
      x.lay(s, form, i, values[i]);
    }
  }

  static int[] cells(SnowPaths x, int what, int from, int number) {
    int[] got = new int[number];
    for (int i = 0; i < number; i++) {
      got[i] = x.cell(from + i, what);
    }
    return got;
  }

  static int[] items(SnowPaths x, int s, int form, int number) {
    int[] got = new int[number];
    for (int i = 0; i < number; i++) {
      got[i] = x.get(s, form, i);
    }
    return got;
  }

  static int[] planned(SnowPaths x, int from, int to) {
    int number = 0;
    while (number < 64 && x.plan(from, to, number) >= 0) {
      number++;
    }
    int[] got = new int[number];
    for (int i = 0; i < number; i++) {
      got[i] = x.plan(from, to, i);
    }
    return got;
  }
}
