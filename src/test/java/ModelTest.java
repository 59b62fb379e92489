import java.util.ArrayList;
import java.util.LinkedHashMap;
import java.util.List;
import java.util.Map;
import java.util.Random;

/** Long runs of random calls, each answered by the class and by the model. */
public final class ModelTest {
  private static final int RUNS = 240;
  private static final int CALLS = 512;
  /** Thin snow makes many ways cost alike, deep snow makes long ways around worth it. */
  private static final int[] DEEPEST = {11, 2, 30, 11};

  /** How often each call comes, and of which kinds its arguments are. */
  private static final Map<String, String> CALLED = new LinkedHashMap<>();

  static {
    String table = "type 2 b;wipe 1;fault 2;cell 20 cw;snows 12 n;thaws 4 n;freezes 5;clear 12 cd;read 4 s;"
        + "walker 12 cc;gone 1;plan 20 cci;walk 25 k;morning 8;all 8 w;straight 6 k;longer 4;orders 2 t;"
        + "order 2 k;first 3 t;yard 1 t;falls 4 t;grit 6 gi;left 4 gt;tower 2 st;towerOrder 2 sk;hints 3 skt;"
        + "sheet 5 sfz;lose 2 s;lay 10 sfiv;get 15 sfi;copy 8 sisin;write 6 s;count 20 w;digest 1";
    for (String row : table.split(";")) {
      CALLED.put(row.substring(0, row.indexOf(' ')), row.substring(row.indexOf(' ') + 1));
    }
  }

  private final Check check;
  private final Random random;
  private final int run;
  private final SnowPaths real = new SnowPaths();
  private final Model model = new Model();

  private ModelTest(Check check, int run) {
    this.check = check;
    this.run = run;
    this.random = new Random(run);
  }

  public static void main(String[] args) {
    Check check = new Check("ModelTest");
    everyCallIsTried(check);
    int runs = args.length > 0 ? Integer.parseInt(args[0]) : RUNS;
    int from = args.length > 1 ? Integer.parseInt(args[1]) : 0;
    for (int run = from; run < from + runs; run++) {
      new ModelTest(check, run).goOn();
    }
    check.end();
  }

  private static void everyCallIsTried(Check check) {
    int calls = 0;
    for (String name : Calls.names()) {
      calls++;
      check.due(name + " is in the table", CALLED.containsKey(name));
    }
    check.due("calls in the table", calls, CALLED.size());
  }

  private void goOn() {
    List<String> bag = new ArrayList<>();
    for (Map.Entry<String, String> e : CALLED.entrySet()) {
      for (int n = 0; n < Integer.parseInt(e.getValue().split(" ")[0]); n++) {
        bag.add(e.getKey());
      }
    }
    int made = 0;
    if (random.nextInt(10) > 0) {
      made = typeGreen();
    }
    made += begin();
    for (; made < CALLS; made++) {
      String name = bag.get(random.nextInt(bag.size()));
      if (made < 300 && (name.equals("wipe") || name.equals("type")) && random.nextInt(8) > 0) {
        name = "count";
      }
      answer(name, arguments(name));
    }
  }

  private int typeGreen() {
    int walls = random.nextInt(35);
    int hidden = random.nextInt(20);
    for (int place = 0; place < 71; place++) {
      int dice = random.nextInt(100);
      answer("type", place % 9 == 8 ? ';' : dice < walls ? '#' : dice < walls + hidden ? 'o' : '.');
    }
    return 71;
  }

  private int begin() {
    int made = random.nextInt(6);
    for (int n = 0; n < made; n++) {
      answer("walker", random.nextInt(64), random.nextInt(64));
    }
    answer("sheet", 0, 2, 64);
    int deepest = DEEPEST[run % DEEPEST.length];
    for (int c = 0; c < 64; c++) {
      answer("lay", 0, 2, c, random.nextInt(1 + random.nextInt(1 + deepest)));
    }
    answer("read", 0);
    return made + 66;
  }

  private int[] arguments(String name) {
    String[] entry = CALLED.get(name).split(" ");
    String kinds = entry.length > 1 ? entry[1] : "";
    int[] args = new int[kinds.length()];
    for (int n = 0; n < args.length; n++) {
      boolean wild = random.nextInt(150) == 0;
      args[n] = wild ? Check.WILD[random.nextInt(Check.WILD.length)] : argument(kinds.charAt(n));
    }
    return args;
  }

  private int argument(char kind) {
    boolean off = random.nextInt(40) == 0;
    switch (kind) {
      case 'b': return ".#o;.#o;x".charAt(random.nextInt(9)) + (off ? 256 : 0);
      case 'c': return off ? -1 + 65 * random.nextInt(2) : random.nextInt(64);
      case 'w': return random.nextInt(off ? 11 : 6) - (off ? 1 : 0);
      case 'n': return off ? -1 + 11 * random.nextInt(2) : random.nextInt(10);
      case 'd': return off ? -1 + 5 * random.nextInt(2) : random.nextInt(4);
      case 's': return off ? -1 + 5 * random.nextInt(2) : random.nextInt(3);
      case 'i': return random.nextInt(12) - 1 - (off ? 1 : 0);
      case 'k': return random.nextInt(off ? 10 : 4) - (off ? 1 : 0);
      case 't': return off ? -1 + 3 * random.nextInt(2) : random.nextInt(2);
      case 'g': return off ? -1 + 10 * random.nextInt(2) : random.nextInt(9);
      case 'f': return off ? -1 + 4 * random.nextInt(2) : random.nextInt(3);
      case 'z': return off ? -2 + 68 * random.nextInt(2) : random.nextInt(3) == 0 ? 64 : random.nextInt(20);
      case 'v': return random.nextInt(5) == 0 ? random.nextInt() : random.nextInt(4);
      default: throw new IllegalArgumentException("kind " + kind);
    }
  }

  private void answer(String name, int... args) {
    long want = Calls.make(model, name, args);
    check.due("run " + run + ": " + Calls.told(name, args), Calls.make(real, name, args), want);
  }
}
