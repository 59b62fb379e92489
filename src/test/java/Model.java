import java.util.ArrayList;
import java.util.Arrays;
import java.util.List;
import java.util.Objects;

/**
 * The document written a second time, as plainly as it goes and by other means than the class: ways
 * are kept as texts of directions and bettered until none can be, orders are made as lists, and
 * whatever is tried is tried on a copy of everything.
 */
public final class Model {
  private static final int NONE = -1, BAD = -2, NOT = -3, FULL = -4;

  private StringBuilder text = new StringBuilder();
  private int[] snow = new int[64];
  private int[] pressed = new int[64];
  private int[] ice = new int[64];
  private int[] passed = new int[64];
  private List<int[]> walkers = new ArrayList<>();
  private final Object[] sheets = new Object[4];
  private int finding = 0;

  /** What a row of walks came to. */
  private static final class Tale {
    int effort;
    int steps;
    List<Boolean> stopped = new ArrayList<>();
    List<Integer> stepsOf = new ArrayList<>();
    int[] came = new int[64];
  }

  private Model copied() {
    Model m = new Model();
    m.text = new StringBuilder(text);
    m.snow = snow.clone();
    m.pressed = pressed.clone();
    m.ice = ice.clone();
    m.passed = passed.clone();
    m.walkers = new ArrayList<>(walkers);
    return m;
  }

  // ---- the green

  public int type(int b) {
    if (b < 0 || b > 255) {
      return BAD;
    }
    if (text.length() == 75) {
      return FULL;
    }
    text.append((char) b);
    return text.length();
  }

  public int wipe() {
    int had = text.length();
    text = new StringBuilder();
    return had;
  }

  public int fault() {
    int place = 0;
    for (int row = 0; row < 8; row++) {
      for (int column = 0; column < 9; column++) {
        if (row == 7 && column == 8) {
          return place == text.length() ? NONE : place;
        }
        String may = column == 8 ? ";" : ".#o";
        if (place == text.length() || may.indexOf(text.charAt(place)) < 0) {
          return place;
        }
        place++;
      }
    }
    throw new IllegalStateException();
  }

  private int kind(int cell) {
    return fault() == NONE ? ".#o".indexOf(text.charAt(cell / 8 * 9 + cell % 8)) : 0;
  }

  public int cell(int cell, int what) {
    if (cell < 0 || cell > 63 || what < 0 || what > 4) {
      return BAD;
    }
    return what == 0 ? kind(cell) : new int[][] {snow, pressed, ice, passed}[what - 1][cell];
  }

  public int snows(int n) {
    if (n < 0 || n > 9) {
      return BAD;
    }
    int more = 0;
    for (int c = 0; c < 64; c++) {
      for (int each = 0; each < n && kind(c) != 1 && snow[c] < 30; each++) {
        snow[c]++;
        more += each == 0 ? 1 : 0;
      }
    }
    return more;
  }

  public int thaws(int n) {
    if (n < 0 || n > 9) {
      return BAD;
    }
    int less = 0;
    for (int c = 0; c < 64; c++) {
      int before = snow[c] + pressed[c] + ice[c];
      for (int each = 0; each < n; each++) {
        snow[c] -= snow[c] > 0 ? 1 : 0;
        pressed[c] -= pressed[c] > 0 ? 1 : 0;
        ice[c] -= ice[c] > 0 ? 1 : 0;
      }
      less += snow[c] + pressed[c] + ice[c] < before ? 1 : 0;
    }
    return less;
  }

  public int freezes() {
    ice = pressed.clone();
    return (int) Arrays.stream(ice).filter(v -> v > 0).count();
  }

  private static int next(int cell, int direction) {
    int row = cell / 8 + new int[] {-1, 0, 1, 0}[direction];
    int column = cell % 8 + new int[] {0, 1, 0, -1}[direction];
    return row < 0 || row > 7 || column < 0 || column > 7 ? NONE : row * 8 + column;
  }

  public int clear(int cell, int direction) {
    if (cell < 0 || cell > 63 || direction < 0 || direction > 3) {
      return BAD;
    }
    int there = next(cell, direction);
    if (kind(cell) == 1 || there == NONE || kind(there) == 1) {
      return NOT;
    }
    int thrown = snow[cell] + pressed[cell];
    snow[cell] = pressed[cell] = 0;
    snow[there] = Math.min(30, snow[there] + thrown);
    return thrown;
  }

  public int read(int s) {
    if (s < 0 || s > 3) {
      return BAD;
    }
    if (sheets[s] == null) {
      return finding(1);
    }
    int n = 0;
    while (n < size(s) && item(s, n) >= 0 && item(s, n) <= 30) {
      snow[n] = item(s, n);
      n++;
    }
    return n;
  }

  // ---- walkers

  public int walker(int from, int to) {
    if (from < 0 || from > 63 || to < 0 || to > 63) {
      return BAD;
    }
    if (walkers.size() == 8) {
      return FULL;
    }
    walkers.add(new int[] {from, to});
    return walkers.size() - 1;
  }

  public int gone() {
    int were = walkers.size();
    walkers.clear();
    return were;
  }

  /** The least row of directions of those that cost least; null. */
  private String way(int from, int to, boolean[] shut, int[] deep) {
    if (shut[from]) {
      return null;
    }
    String[] rows = new String[64];
    int[] costs = new int[64];
    rows[from] = "";
    for (boolean better = true; better; ) {
      better = false;
      for (int c = 0; c < 64; c++) {
        for (int d = 0; d < 4 && rows[c] != null; d++) {
          int n = next(c, d);
          if (n == NONE || shut[n]) {
            continue;
          }
          int cost = costs[c] + 1 + deep[n];
          String row = rows[c] + d;
          if (rows[n] == null || cost < costs[n] || cost == costs[n] && row.compareTo(rows[n]) < 0) {
            rows[n] = row;
            costs[n] = cost;
            better = true;
          }
        }
      }
    }
    return rows[to];
  }

  private boolean[] shut(int... kinds) {
    boolean[] shut = new boolean[64];
    for (int c = 0; c < 64; c++) {
      int kind = kind(c);
      for (int k : kinds) {
        shut[c] |= kind == k;
      }
    }
    return shut;
  }

  public int plan(int from, int to, int i) {
    if (from < 0 || from > 63 || to < 0 || to > 63 || i < -1) {
      return BAD;
    }
    String row = kind(from) != 0 ? null : way(from, to, shut(1), snow);
    if (row == null) {
      return NONE;
    }
    int cost = 0;
    int at = from;
    for (int n = 0; n < row.length(); n++) {
      at = next(at, row.charAt(n) - '0');
      cost += 1 + snow[at];
      if (n == i) {
        return at;
      }
    }
    return i == NONE ? cost : NONE;
  }

  private void go(int from, int to, int alsoHidden, Tale tale) {
    boolean[] hidden = shut(2);
    if (alsoHidden != NONE) {
      hidden[alsoHidden] = true;
    }
    boolean[] shut = shut(1);
    int at = from;
    int before = tale.steps;
    boolean stops = kind(from) != 0 || hidden[from];
    while (!stops && at != to) {
      String row = way(at, to, shut, snow);
      stops = row == null;
      for (int n = 0; !stops && n < row.length(); n++) {
        int c = next(at, row.charAt(n) - '0');
        if (hidden[c]) {
          shut[c] = true;
          break;
        }
        at = c;
        tale.effort += 1 + snow[c];
        tale.steps++;
        tale.came[c]++;
        passed[c]++;
        if (snow[c] > 0) {
          snow[c]--;
          pressed[c] = Math.min(30, pressed[c] + 1);
        }
      }
    }
    tale.stopped.add(stops);
    tale.stepsOf.add(tale.steps - before);
  }

  private Tale goAll(List<Integer> order) {
    Tale tale = new Tale();
    for (int w : order) {
      go(walkers.get(w)[0], walkers.get(w)[1], NONE, tale);
    }
    return tale;
  }

  private List<Integer> numbers() {
    List<Integer> all = new ArrayList<>();
    for (int w = 0; w < walkers.size(); w++) {
      all.add(w);
    }
    return all;
  }

  private Tale tried() {
    return copied().goAll(numbers());
  }

  private boolean nobody(int walker) {
    return walker < 0 || walker >= walkers.size();
  }

  public int walk(int walker) {
    return nobody(walker) ? BAD : goAll(List.of(walker)).effort;
  }

  public int morning() {
    return goAll(numbers()).effort;
  }

  // ---- what would be

  public int all(int what) {
    Tale tale = tried();
    switch (what) {
      case 0: return tale.effort;
      case 1: return tale.steps;
      case 2: return (int) Arrays.stream(tale.came).filter(v -> v > 0).count();
      case 3: return (int) tale.stopped.stream().filter(v -> v).count();
      default: return BAD;
    }
  }

  public int straight(int walker) {
    if (nobody(walker)) {
      return BAD;
    }
    String row = way(walkers.get(walker)[0], walkers.get(walker)[1], shut(1, 2), new int[64]);
    return row == null ? NONE : row.length();
  }

  public int longer() {
    Tale tale = tried();
    int more = 0;
    for (int w = 0; w < walkers.size(); w++) {
      more += tale.stopped.get(w) ? 0 : tale.stepsOf.get(w) - straight(w);
    }
    return more;
  }

  private List<List<Integer>> allOrders(List<Integer> rest) {
    List<List<Integer>> out = new ArrayList<>();
    if (rest.isEmpty()) {
      out.add(new ArrayList<>());
    }
    for (Integer head : rest) {
      List<Integer> others = new ArrayList<>(rest);
      others.remove(head);
      for (List<Integer> tail : allOrders(others)) {
        tail.add(0, head);
        out.add(tail);
      }
    }
    return out;
  }

  public int orders(int what) {
    if (what < 0 || what > 1) {
      return BAD;
    }
    if (walkers.size() > 5) {
      return FULL;
    }
    java.util.stream.IntStream efforts =
        allOrders(numbers()).stream().mapToInt(o -> copied().goAll(o).effort);
    return what == 0 ? efforts.min().getAsInt() : efforts.max().getAsInt();
  }

  public int order(int i) {
    if (i < 0) {
      return BAD;
    }
    if (walkers.size() > 5) {
      return FULL;
    }
    if (i >= walkers.size()) {
      return BAD;
    }
    int least = orders(0);
    for (List<Integer> o : allOrders(numbers())) {
      if (copied().goAll(o).effort == least) {
        return o.get(i);
      }
    }
    throw new IllegalStateException();
  }

  public int first(int what) {
    if (what < 0 || what > 1) {
      return BAD;
    }
    if (walkers.isEmpty()) {
      return NOT;
    }
    int[] best = null;
    for (int w = 0; w < walkers.size(); w++) {
      List<Integer> order = numbers();
      order.remove(w);
      order.add(0, w);
      int effort = copied().goAll(order).effort;
      if (best == null || effort < best[1]) {
        best = new int[] {w, effort};
      }
    }
    return best[what];
  }

  public int yard(int what) {
    if (what < 0 || what > 1) {
      return BAD;
    }
    int now = tried().effort;
    int[] best = {NONE, 0};
    for (int c = 0; c < 64; c++) {
      Model m = copied();
      m.snow[c] = 0;
      int less = kind(c) == 1 ? 0 : now - m.goAll(numbers()).effort;
      if (less > best[1]) {
        best = new int[] {c, less};
      }
    }
    return best[what];
  }

  // ---- falls, pictures

  private static long fraction(long above, int what) {
    long a = above;
    long b = 30;
    for (long by : new long[] {2, 3, 5}) {
      if (a % by == 0 && b % by == 0) {
        a /= by;
        b /= by;
      }
    }
    return what == 0 ? a : b;
  }

  public long falls(int what) {
    return left(0, what);
  }

  private List<Integer> gritted(int k, int[] came) {
    List<Integer> cells = new ArrayList<>();
    for (int c = 0; c < 64; c++) {
      if (ice[c] * came[c] > 0) {
        cells.add(c);
      }
    }
    cells.sort((a, b) -> ice[b] * came[b] - ice[a] * came[a]);
    return cells.subList(0, Math.min(k, cells.size()));
  }

  public int grit(int k, int i) {
    if (k < 0 || k > 8 || i < 0) {
      return BAD;
    }
    List<Integer> cells = gritted(k, tried().came);
    return i < cells.size() ? cells.get(i) : NONE;
  }

  public long left(int k, int what) {
    if (k < 0 || k > 8 || what < 0 || what > 1) {
      return Long.MIN_VALUE + 2;
    }
    int[] came = tried().came;
    List<Integer> cells = gritted(k, came);
    long total = 0;
    for (int c = 0; c < 64; c++) {
      total += cells.contains(c) ? 0 : ice[c] * came[c];
    }
    return fraction(total, what);
  }

  private boolean shows(int s, int[] came) {
    for (int n = 0; n < size(s); n++) {
      if (item(s, n) != came[n]) {
        return false;
      }
    }
    return true;
  }

  private List<List<Integer>> alike(int s) {
    List<List<Integer>> out = allOrders(numbers());
    out.removeIf(o -> !shows(s, copied().goAll(o).came));
    return out;
  }

  public int tower(int s, int what) {
    if (s < 0 || s > 3 || what < 0 || what > 1) {
      return BAD;
    }
    if (sheets[s] == null) {
      return finding(1);
    }
    if (walkers.size() > 5) {
      return FULL;
    }
    int bits = 0;
    for (List<Integer> o : alike(s)) {
      bits |= o.isEmpty() ? 0 : 1 << o.get(0);
    }
    return what == 0 ? alike(s).size() : bits;
  }

  public int towerOrder(int s, int i) {
    if (s < 0 || s > 3 || i < 0 || i >= walkers.size()) {
      return BAD;
    }
    if (sheets[s] == null) {
      return finding(1);
    }
    if (walkers.size() > 5) {
      return FULL;
    }
    return alike(s).isEmpty() ? NONE : alike(s).get(0).get(i);
  }

  public int hints(int s, int walker, int what) {
    if (s < 0 || s > 3 || nobody(walker) || what < 0 || what > 1) {
      return BAD;
    }
    if (sheets[s] == null) {
      return finding(1);
    }
    List<Integer> cells = new ArrayList<>();
    for (int c = 0; c < 64; c++) {
      Tale tale = new Tale();
      copied().go(walkers.get(walker)[0], walkers.get(walker)[1], c, tale);
      if (kind(c) == 0 && shows(s, tale.came)) {
        cells.add(c);
      }
    }
    return what == 0 ? cells.size() : cells.isEmpty() ? NONE : cells.get(0);
  }

  // ---- sheets

  private int finding(int number) {
    finding = number;
    return -10 - number;
  }

  private int size(int s) {
    return java.lang.reflect.Array.getLength(sheets[s]);
  }

  private int item(int s, int i) {
    return java.lang.reflect.Array.getInt(sheets[s], i);
  }

  private static final List<Class<?>> FORMS = List.of(byte[].class, short[].class, int[].class);

  public int sheet(int s, int form, int n) {
    if (s < 0 || s > 3 || form < 0 || form > 2 || n > 64) {
      return BAD;
    }
    if (n < 0) {
      return finding(5);
    }
    sheets[s] = form == 0 ? new byte[n] : form == 1 ? new short[n] : new int[n];
    return n;
  }

  public int lose(int s) {
    if (s < 0 || s > 3) {
      return BAD;
    }
    if (sheets[s] == null) {
      return finding(1);
    }
    int had = size(s);
    sheets[s] = null;
    return had;
  }

  public int lay(int s, int form, int i, int v) {
    if (s < 0 || s > 3 || form < 0 || form > 2) {
      return BAD;
    }
    if (sheets[s] == null) {
      return finding(1);
    }
    if (sheets[s].getClass() != FORMS.get(form)) {
      return finding(3);
    }
    if (i < 0 || i >= size(s)) {
      return finding(2);
    }
    put(s, i, v);
    return 1;
  }

  private void put(int s, int i, int v) {
    if (sheets[s] instanceof byte[]) {
      ((byte[]) sheets[s])[i] = (byte) v;
    } else if (sheets[s] instanceof short[]) {
      ((short[]) sheets[s])[i] = (short) v;
    } else {
      ((int[]) sheets[s])[i] = v;
    }
  }

  public int get(int s, int form, int i) {
    if (s < 0 || s > 3 || form < 0 || form > 2) {
      return Integer.MIN_VALUE;
    }
    int kind = sheets[s] == null ? 1 : sheets[s].getClass() != FORMS.get(form) ? 3
        : i < 0 || i >= size(s) ? 2 : 0;
    if (kind != 0) {
      finding(kind);
      return Integer.MIN_VALUE;
    }
    return item(s, i);
  }

  public int copy(int s, int i, int t, int j, int n) {
    if (s < 0 || s > 3 || t < 0 || t > 3) {
      return BAD;
    }
    if (sheets[s] == null || sheets[t] == null) {
      return finding(1);
    }
    try {
      System.arraycopy(Objects.requireNonNull(sheets[s]), i, sheets[t], j, n);
    } catch (ArrayStoreException e) {
      return finding(4);
    } catch (IndexOutOfBoundsException e) {
      return finding(2);
    }
    return 1;
  }

  public int write(int s) {
    if (s < 0 || s > 3) {
      return BAD;
    }
    if (sheets[s] == null) {
      return finding(1);
    }
    int[] came = tried().came;
    for (int n = 0; n < size(s); n++) {
      put(s, n, came[n]);
    }
    return size(s);
  }

  private int kinds(int kind) {
    int n = 0;
    for (int c = 0; c < 64; c++) {
      n += kind(c) == kind ? 1 : 0;
    }
    return n;
  }

  public int count(int what) {
    switch (what) {
      case 0: return text.length();
      case 1: return kinds(1);
      case 2: return kinds(2);
      case 3: return Arrays.stream(snow).sum();
      case 4: return Arrays.stream(pressed).sum();
      case 5: return Arrays.stream(ice).sum();
      case 6: return Arrays.stream(passed).sum();
      case 7: return walkers.size();
      case 8: return finding;
      default: return BAD;
    }
  }

  public long digest() {
    List<Long> all = new ArrayList<>();
    for (int what = 0; what < 8; what++) {
      all.add((long) count(what));
    }
    all.add((long) fault());
    for (int c = 0; c < 64; c++) {
      for (int what = 0; what < 5; what++) {
        all.add((long) cell(c, what));
      }
    }
    for (int w = 0; w < walkers.size(); w++) {
      all.add((long) straight(w));
      all.add((long) plan(walkers.get(w)[0], walkers.get(w)[1], NONE));
    }
    for (int what = 0; what < 4; what++) {
      all.add((long) all(what));
    }
    all.addAll(List.of((long) longer(), (long) first(0), (long) first(1), (long) yard(0), (long) yard(1)));
    all.addAll(List.of(falls(0), falls(1), left(2, 0), left(2, 1)));
    long h = 17;
    for (long each : all) {
      h = 31 * h + each;
    }
    return h;
  }
}
