import java.util.Map;
import java.util.TreeMap;

/**
 * Each argument of each call: all that is allowed, the first beyond it on both sides, the least and the
 * greatest int, and numbers of which only the lowest bits would be allowed.
 */
public final class BoundsTest {
  private static final Check check = new Check("BoundsTest");
  private static final int LEAST = Integer.MIN_VALUE;
  private static final int MOST = Integer.MAX_VALUE;
  private static final int NULL = -11, INDEX = -12, SIZE = -15;
  private static final int ITEMS = 5;

  /** How many arguments of each call were looked at. */
  private static final Map<String, Integer> seen = new TreeMap<>();

  private static int walkers = 3;

  public static void main(String[] args) {
    green();
    walkersAndPlans();
    whatWouldBe();
    fallsAndPictures();
    sheets();
    items();
    numbersOfWalkers();
    nothingIsLeftOut();
    check.end();
  }

  private static SnowPaths ready() {
    SnowPaths x = new SnowPaths();
    x.snows(2);
    for (int n = 0; n < walkers; n++) {
      x.walker(n, 63 - n);
    }
    for (int s = 0; s < 4; s++) {
      x.sheet(s, 2, ITEMS);
    }
    return x;
  }

  private static void green() {
    bound("type", 0, 0, 255, 46);
    bound("cell", 0, 0, 63, 0, 0);
    bound("cell", 1, 0, 4, 0, 0);
    bound("snows", 0, 0, 9, 0);
    bound("thaws", 0, 0, 9, 0);
    bound("clear", 0, 0, 63, 0, 1);
    bound("clear", 1, 0, 3, 27, 0);
    bound("read", 0, 0, 3, 0);
  }

  private static void walkersAndPlans() {
    bound("walker", 0, 0, 63, 5, 6);
    bound("walker", 1, 0, 63, 5, 6);
    bound("plan", 0, 0, 63, 5, 6, -1);
    bound("plan", 1, 0, 63, 5, 6, -1);
    bound("plan", 2, -1, MOST, 5, 6, -1);
    bound("walk", 0, 0, 2, 0);
  }

  private static void whatWouldBe() {
    bound("all", 0, 0, 3, 0);
    bound("straight", 0, 0, 2, 0);
    bound("orders", 0, 0, 1, 0);
    bound("order", 0, 0, 2, 0);
    bound("first", 0, 0, 1, 0);
    bound("yard", 0, 0, 1, 0);
  }

  private static void fallsAndPictures() {
    bound("falls", 0, 0, 1, 0);
    bound("grit", 0, 0, 8, 0, 0);
    bound("grit", 1, 0, MOST, 0, 0);
    bound("left", 0, 0, 8, 0, 0);
    bound("left", 1, 0, 1, 0, 0);
    bound("tower", 0, 0, 3, 0, 0);
    bound("tower", 1, 0, 1, 0, 0);
    bound("towerOrder", 0, 0, 3, 0, 0);
    bound("towerOrder", 1, 0, 2, 0, 0);
    bound("hints", 0, 0, 3, 0, 0, 0);
    bound("hints", 1, 0, 2, 0, 0, 0);
    bound("hints", 2, 0, 1, 0, 0, 0);
  }

  private static void sheets() {
    bound("sheet", 0, 0, 3, 0, 0, 1);
    bound("sheet", 1, 0, 2, 0, 0, 1);
    finds("sheet", 2, 0, 64, SIZE, SnowPaths.BAD, 0, 0, 1);
    bound("lose", 0, 0, 3, 0);
    bound("copy", 0, 0, 3, 0, 0, 1, 0, 1);
    bound("copy", 2, 0, 3, 0, 0, 1, 0, 1);
    bound("write", 0, 0, 3, 0);
    bound("count", 0, 0, 8, 0);
  }

  private static void items() {
    bound("lay", 0, 0, 3, 0, 2, 0, 7);
    finds("lay", 2, 0, ITEMS - 1, INDEX, INDEX, 0, 2, 0, 7);
    bound("lay", 3, LEAST, MOST, 0, 2, 0, 7);
    finds("get", 0, 0, 3, LEAST, LEAST, 0, 2, 0);
    finds("get", 2, 0, ITEMS - 1, LEAST, LEAST, 0, 2, 0);
    finds("copy", 1, 0, ITEMS - 1, INDEX, INDEX, 0, 0, 1, 0, 1);
    finds("copy", 3, 0, ITEMS - 1, INDEX, INDEX, 0, 0, 1, 0, 1);
    finds("copy", 4, 0, ITEMS, INDEX, INDEX, 0, 0, 1, 0, 1);
    forms();
  }

  /** Of the forms only the sheet's own is answered, and the others that there are with a finding. */
  private static void forms() {
    int[] beyond = {-1, 3, LEAST, LEAST + 2, MOST, 2 + 256, 2 + 65536};
    for (int form : beyond) {
      check.due(Calls.told("lay", 0, form, 0, 7), ready().lay(0, form, 0, 7), SnowPaths.BAD);
      SnowPaths x = ready();
      check.due(Calls.told("get", 0, form, 0), x.get(0, form, 0), LEAST);
      check.due("no finding of form " + form, x.count(8), 0);
    }
    seen.merge("lay", 1, Integer::sum);
    seen.merge("get", 1, Integer::sum);
  }

  private static void numbersOfWalkers() {
    for (walkers = 1; walkers <= 8; walkers++) {
      again("walk", 0, walkers - 1, 0);
      again("straight", 0, walkers - 1, 0);
      again("hints", 1, walkers - 1, 0, 0, 0);
      if (walkers <= 5) {
        again("order", 0, walkers - 1, 0);
        again("towerOrder", 1, walkers - 1, 0, 0);
      }
    }
  }

  private static void again(String name, int place, int high, int... args) {
    bound(name, place, 0, high, args);
    seen.merge(name, -1, Integer::sum);
  }

  private static void bound(String name, int place, int low, int high, int... args) {
    long bad = Calls.answersLong(name) ? Check.LONG_BAD : SnowPaths.BAD;
    look(name, place, new int[] {low, high}, new long[] {bad, bad}, args);
  }

  private static void finds(String name, int place, int low, int high, int below, int above, int... args) {
    look(name, place, new int[] {low, high}, new long[] {below, above}, args);
  }

  private static void look(String name, int place, int[] bounds, long[] refusals, int[] args) {
    check.due(name + " has so many arguments", args.length, Calls.arguments(name));
    seen.merge(name, 1, Integer::sum);
    int low = bounds[0];
    int high = bounds[1];
    for (long v = low; v <= high && v < low + 256L; v++) {
      allowed(name, place, (int) v, refusals, args);
    }
    allowed(name, place, high, refusals, args);
    long[] beyond = {low - 1L, high + 1L, low - 2L, high + 2L, LEAST, LEAST + 1, MOST, MOST - 1,
        low + 256L, low - 256L, low + 65536L, low - 65536L, (long) low + LEAST, high + 256L, -1000, 1000};
    for (long v : beyond) {
      if (v < low && v >= LEAST) {
        check.due(told(name, place, (int) v, args), made(name, place, (int) v, args), refusals[0]);
      } else if (v > high && v <= MOST) {
        check.due(told(name, place, (int) v, args), made(name, place, (int) v, args), refusals[1]);
      }
    }
  }

  private static void allowed(String name, int place, int v, long[] refusals, int[] args) {
    long got = made(name, place, v, args);
    boolean refused = got == refusals[0] || got == refusals[1] || got == NULL;
    check.due(told(name, place, v, args) + " is allowed, but answered " + got, !refused);
  }

  private static int[] with(int[] args, int place, int v) {
    int[] out = args.clone();
    out[place] = v;
    return out;
  }

  private static long made(String name, int place, int v, int[] args) {
    return Calls.make(ready(), name, with(args, place, v));
  }

  private static String told(String name, int place, int v, int[] args) {
    return Calls.told(name, with(args, place, v)) + " with " + walkers + " walkers";
  }

  private static void nothingIsLeftOut() {
    for (String name : Calls.names()) {
      check.due("arguments of " + name + " looked at", seen.getOrDefault(name, 0), Calls.arguments(name));
    }
  }
}
