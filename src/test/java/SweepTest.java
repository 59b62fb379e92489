import java.util.Set;
import java.util.function.Consumer;

/**
 * Every call with every row of arguments at and around the bounds, several off at once too, in states at
 * the bounds: answered as the model answers, and what is there behind it as the model has it.
 */
public final class SweepTest {
  private static final Check check = new Check("SweepTest");
  private static final int LEAST = Integer.MIN_VALUE;
  private static final int MOST = Integer.MAX_VALUE;
  private static final int CALLS = 512;
  private static final int LOOK = 8 + 4 * 64 + 8 + 64 + 5 + 4;

  private static final Set<String> CHANGING = Set.of("type", "wipe", "snows", "thaws", "freezes", "clear", "read",
      "walker", "gone", "walk", "morning", "sheet", "lose", "lay", "copy", "write");

  /** By how many arguments a call has. */
  private static final int[][] VALUES = {
      {},
      {LEAST, LEAST + 1, -1000, -3, -2, -1, 0, 1, 2, 3, 4, 5, 6, 7, 8, 9, 10, 30, 31, 46, 63, 64, 65, 255, 256, 257,
          65535, 65536, MOST - 1, MOST},
      {LEAST, -2, -1, 0, 1, 2, 3, 4, 5, 7, 8, 9, 27, 56, 63, 64, MOST},
      {LEAST, -2, -1, 0, 1, 2, 3, 4, 63, 64, 65, MOST},
      {LEAST, -1, 0, 1, 2, 3, 4, 5, MOST},
      {LEAST, -1, 0, 1, 3, 4, 5, MOST}};

  private final String state;
  private final Consumer<SweepTest> builder;
  private SnowPaths real;
  private Model model;
  private int made = 0;
  private int built = 0;

  private SweepTest(String state, Consumer<SweepTest> builder) {
    this.state = state;
    this.builder = builder;
    renew();
  }

  public static void main(String[] args) {
    sweep("new", x -> { });
    sweep("rich, nobody", x -> x.rich(0));
    sweep("rich, one", x -> x.rich(1));
    sweep("rich, four", x -> x.rich(4));
    sweep("rich, six", x -> x.rich(6));
    sweep("rich, eight", x -> x.rich(8));
    sweep("walls alone", x -> x.full('#'));
    sweep("hidden ones alone", x -> x.full('o'));
    sweep("75 bytes", x -> x.typeAll(".".repeat(75)));
    check.end();
  }

  private static void sweep(String state, Consumer<SweepTest> builder) {
    for (String name : Calls.names()) {
      SweepTest sweep = new SweepTest(state, builder);
      sweep.rows(name, new int[Calls.arguments(name)], 0);
      sweep.look();
    }
  }

  private void rows(String name, int[] args, int place) {
    if (place == args.length) {
      one(name, args);
      return;
    }
    for (int v : VALUES[args.length]) {
      args[place] = v;
      rows(name, args, place + 1);
    }
  }

  private void one(String name, int[] args) {
    if (made + 2 + LOOK > CALLS) {
      look();
      renew();
    }
    long got = answer(name, args);
    answer("count", 8);
    if (CHANGING.contains(name) && got >= 0) {
      look();
      renew();
    }
  }

  /** All that can be seen of both; it loses the sheets, so that they have to be made anew. */
  private void look() {
    for (int what = 0; what < 8; what++) {
      answer("count", what);
    }
    for (int c = 0; c < 64; c++) {
      for (int what = 1; what <= 4; what++) {
        answer("cell", c, what);
      }
      answer("get", 0, 0, c);
    }
    for (int w = 0; w < 8; w++) {
      answer("straight", w);
    }
    for (int i = 0; i < 5; i++) {
      answer("get", 1, 1, i);
    }
    for (int s = 0; s < 4; s++) {
      answer("lose", s);
    }
  }

  private void renew() {
    real = new SnowPaths();
    model = new Model();
    made = 0;
    built++;
    builder.accept(this);
  }

  private long answer(String name, int... args) {
    made++;
    long got = Calls.make(real, name, args);
    check.due(state + " (" + built + "): " + Calls.told(name, args), got, Calls.make(model, name, args));
    return got;
  }

  private void typeAll(String text) {
    for (int i = 0; i < text.length(); i++) {
      answer("type", text.charAt(i));
    }
  }

  private void full(char sign) {
    typeAll(Check.text(String.valueOf(sign).repeat(8)));
    answer("walker", 0, 1);
    answer("walker", 5, 5);
    sheets();
  }

  private void rich(int walkers) {
    typeAll(Check.text(Check.OPEN_ROW, "........", "..#.o...", "....#...", "...o....", ".#......"));
    answer("snows", 5);
    answer("walker", 0, 7);
    answer("walker", 63, 56);
    answer("morning");
    answer("freezes");
    answer("morning");
    answer("clear", 9, 0);
    answer("gone");
    for (int n = 0; n < walkers; n++) {
      answer("walker", n * 3, 60 - n);
    }
    sheets();
  }

  private void sheets() {
    answer("sheet", 0, 0, 64);
    answer("write", 0);
    answer("sheet", 1, 1, 5);
    for (int i = 0; i < 5; i++) {
      answer("lay", 1, 1, i, 7 * i - 9);
    }
    answer("sheet", 2, 2, 0);
  }
}
