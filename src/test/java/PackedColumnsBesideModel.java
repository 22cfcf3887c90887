import java.math.BigInteger;
import java.util.ArrayList;
import java.util.Collections;
import java.util.HashSet;
import java.util.List;
import java.util.Set;
import java.util.TreeMap;

// Long runs of calls on a PackedColumns and on a slow model that is written from the document
// alone; every answer must be the same. The runs are made from a counter, so each time the same.
public final class PackedColumnsBesideModel {
  private static final int RUNS = 3000;
  private static final int CALLS = 512;

  /** The document's words in lists and big numbers. */
  private static final class Model {
    static final class Row {
      final int[] now;
      int[] packed;
      final boolean[] patched = new boolean[3];
      boolean deleted;
      Row(int[] now) { this.now = now; }
    }
    record Condition(int c, int low, int high) {
      boolean met(int v) { return v >= low && v <= high; }
    }

    private List<Row> rows = new ArrayList<>();
    private final List<Condition> conditions = new ArrayList<>();

    private boolean there(int r) { return r >= 0 && r < rows.size() && !rows.get(r).deleted; }
    private static boolean bad(int c) { return c != 0 && c != 1 && c != 2; }
    private int blocks() { return rows.size() / 16; }

    int append(int x, int y, int z) {
      if (rows.size() == 96) return PackedColumns.FULL;
      rows.add(new Row(new int[] {x, y, z}));
      if (rows.size() % 16 == 0) pack(rows.size() / 16 - 1);
      return rows.size() - 1;
    }

    private void pack(int b) {
      for (Row row : rows.subList(16 * b, 16 * b + 16)) row.packed = row.now.clone();
    }

    int change(int r, int c, int x) {
      if (bad(c)) return PackedColumns.BAD_ARG;
      if (!there(r)) return PackedColumns.NONE;
      Row row = rows.get(r);
      int was = row.now[c];
      boolean patch = row.packed != null && was != x;
      if (patch && !row.patched[c] && patches() >= 20) return PackedColumns.FULL;
      if (patch) row.patched[c] = true;
      row.now[c] = x;
      return was;
    }

    int delete(int r) {
      if (!there(r)) return PackedColumns.NONE;
      rows.get(r).deleted = true;
      return (int) rows.stream().filter(row -> !row.deleted).count();
    }

    int compact() {
      List<Row> kept = new ArrayList<>();
      for (Row row : rows) if (!row.deleted) kept.add(new Row(row.now));
      rows = kept;
      for (int b = 0; b < blocks(); b++) pack(b);
      return rows.size();
    }

    int value(int r, int c) {
      if (bad(c)) return PackedColumns.BAD_ARG;
      return there(r) ? rows.get(r).now[c] : PackedColumns.NONE;
    }

    private static int width(BigInteger span) { return span.bitLength(); }

    private static BigInteger span(List<BigInteger> numbers) {
      return Collections.max(numbers).subtract(Collections.min(numbers));
    }

    /** The digits of each form, -1 for one that can't be used. */
    private int[] sizes(int b, int c) {
      List<BigInteger> v = new ArrayList<>();
      for (Row row : rows.subList(16 * b, 16 * b + 16)) v.add(BigInteger.valueOf(row.packed[c]));
      List<BigInteger> steps = new ArrayList<>();
      int stretches = 1;
      for (int i = 0; i < 15; i++) {
        steps.add(v.get(i + 1).subtract(v.get(i)));
        if (steps.get(i).signum() != 0) stretches++;
      }
      int n = new HashSet<>(v).size();
      int w = n <= 1 ? 0 : n <= 2 ? 1 : n <= 4 ? 2 : 3;
      boolean ints = steps.stream().allMatch(s -> s.bitLength() <= 31);
      int frame = width(span(v));
      int step = width(span(steps));
      return new int[] {
        512, n == 1 ? 32 : -1, 37 * stretches, n <= 8 ? 32 * n + 16 * w : -1,
        frame <= 31 ? 38 + 16 * frame : -1, ints && step <= 31 ? 70 + 15 * step : -1};
    }

    int form(int b, int c) {
      if (bad(c)) return PackedColumns.BAD_ARG;
      if (b < 0 || b >= blocks()) return PackedColumns.NONE;
      int[] sizes = sizes(b, c);
      int best = 0;
      for (int f = 5; f >= 0; f--) if (sizes[f] >= 0 && sizes[f] <= sizes[best]) best = f;
      return best;
    }

    int digits(int c) {
      if (bad(c)) return PackedColumns.BAD_ARG;
      int all = 32 * (rows.size() - 16 * blocks());
      for (int b = 0; b < blocks(); b++) all += sizes(b, c)[form(b, c)];
      return all;
    }

    int patches() {
      int n = 0;
      for (Row row : rows) for (boolean p : row.patched) if (p) n++;
      return n;
    }

    int condition(int c, int low, int high) {
      if (bad(c)) return PackedColumns.BAD_ARG;
      if (conditions.size() == 4) return PackedColumns.FULL;
      conditions.add(new Condition(c, low, high));
      return conditions.size();
    }

    int free() {
      int n = conditions.size();
      conditions.clear();
      return n;
    }

    int passed() {
      int n = 0;
      for (int b = 0; b < blocks(); b++) {
        List<Row> block = rows.subList(16 * b, 16 * b + 16);
        if (conditions.stream().anyMatch(q -> block.stream().noneMatch(row -> q.met(row.packed[q.c])))) n++;
      }
      return n;
    }

    private List<Integer> chosenRows() {
      List<Integer> list = new ArrayList<>();
      for (int r = 0; r < rows.size(); r++) {
        Row row = rows.get(r);
        if (!row.deleted && conditions.stream().allMatch(q -> q.met(row.now[q.c]))) list.add(r);
      }
      return list;
    }

    private List<Integer> falling(int c) {
      List<Integer> list = new ArrayList<>();
      for (int r : chosenRows()) list.add(rows.get(r).now[c]);
      list.sort(Collections.reverseOrder());
      return list;
    }

    int chosen(int k) {
      List<Integer> list = chosenRows();
      return k >= 0 && k < list.size() ? list.get(k) : PackedColumns.NONE;
    }

    int sum(int c) {
      if (bad(c)) return PackedColumns.BAD_ARG;
      return falling(c).stream().map(BigInteger::valueOf).reduce(BigInteger.ZERO, BigInteger::add).intValue();
    }

    int least(int c) {
      if (bad(c)) return PackedColumns.BAD_ARG;
      List<Integer> list = falling(c);
      return list.isEmpty() ? PackedColumns.NONE : list.get(list.size() - 1);
    }

    int ranked(int c, int k) {
      if (bad(c)) return PackedColumns.BAD_ARG;
      List<Integer> list = falling(c);
      return k >= 0 && k < list.size() ? list.get(k) : PackedColumns.NONE;
    }

    int different(int c) {
      if (bad(c)) return PackedColumns.BAD_ARG;
      Set<Integer> set = new HashSet<>(falling(c));
      return set.size();
    }

    int commonest(int c) {
      if (bad(c)) return PackedColumns.BAD_ARG;
      TreeMap<Integer, Integer> times = new TreeMap<>();
      for (int v : falling(c)) times.merge(v, 1, Integer::sum);
      int best = PackedColumns.NONE;
      int most = 0;
      for (var e : times.entrySet()) {
        if (e.getValue() > most) {
          most = e.getValue();
          best = e.getKey();
        }
      }
      return best;
    }
  }

  // ---- The runs ----

  private static long state;

  private static int below(int bound) {
    state = state * 6364136223846793005L + 1442695040888963407L;
    return (int) ((state >>> 33) % bound);
  }

  private static int any() {
    return (below(1 << 16) << 16) | below(1 << 16);
  }

  private static int style;
  private static int last;

  /** A value in the manner of the run: each manner leads to other forms. */
  private static int someValue() {
    switch (below(12) == 0 ? below(9) : style) {
      case 0: last = any(); break;
      case 1: last = below(3); break;
      case 2: last = below(4) == 0 ? below(12) * 100000000 : last; break;
      case 3: last = below(8) * 536870912; break;
      case 4: last = 1000 + below(1 << 1 + below(29)); break;
      case 5: last = last + 500 + below(1 << below(18)); break;
      case 6: last = new int[] {Integer.MIN_VALUE, Integer.MAX_VALUE, PackedColumns.NONE, 0}[below(4)]; break;
      case 7: last = last + (1 << 27) + below(1 << below(30)); break;
      default: last = last - 3; break;
    }
    return last;
  }

  private static int column() {
    return below(40) == 0 ? new int[] {-1, 3, Integer.MIN_VALUE, Integer.MAX_VALUE}[below(4)] : below(3);
  }

  private static int number(int top) {
    return below(40) == 0 ? new int[] {-1, top, Integer.MIN_VALUE, Integer.MAX_VALUE}[below(4)] : below(top + 2);
  }

  private static int wrong = 0;
  private static int run;
  private static int call;

  private static void same(String what, int got, int want) {
    if (got != want) {
      wrong++;
      System.out.println("run " + run + ", call " + call + ": " + what + " answered " + got + ", due is " + want);
    }
  }

  private static void oneChange(PackedColumns t, Model m) {
    int kind = below(100);
    int rows = m.rows.size();
    if (kind < 55) {
      int x = someValue();
      int y = someValue();
      int z = someValue();
      same("append(" + x + ", " + y + ", " + z + ")", t.append(x, y, z), m.append(x, y, z));
    } else if (kind < 80) {
      int r = number(rows);
      int c = column();
      int x = below(5) == 0 && m.there(r) && !Model.bad(c) ? m.value(r, c) : someValue();
      same("change(" + r + ", " + c + ", " + x + ")", t.change(r, c, x), m.change(r, c, x));
    } else if (kind < 88) {
      int r = number(rows);
      same("delete(" + r + ")", t.delete(r), m.delete(r));
    } else if (kind < 90) {
      same("compact()", t.compact(), m.compact());
    } else if (kind < 97) {
      int c = column();
      int low = below(3) == 0 ? Integer.MIN_VALUE : someValue();
      int high = below(3) == 0 ? Integer.MAX_VALUE : someValue();
      same("condition(" + c + ", " + low + ", " + high + ")", t.condition(c, low, high), m.condition(c, low, high));
    } else {
      same("free()", t.free(), m.free());
    }
  }

  private static void oneQuestion(PackedColumns t, Model m) {
    int c = column();
    int k = number(m.rows.size());
    switch (below(15)) {
      case 0: same("rows()", t.rows(), m.rows.size()); break;
      case 1: same("value(" + k + ", " + c + ")", t.value(k, c), m.value(k, c)); break;
      case 2: same("blocks()", t.blocks(), m.blocks()); break;
      case 3:
      case 4: int b = number(m.blocks()); same("form(" + b + ", " + c + ")", t.form(b, c), m.form(b, c)); break;
      case 5: same("digits(" + c + ")", t.digits(c), m.digits(c)); break;
      case 6: same("patches()", t.patches(), m.patches()); break;
      case 7: same("passed()", t.passed(), m.passed()); break;
      case 8: same("count()", t.count(), m.chosenRows().size()); break;
      case 9: same("chosen(" + k + ")", t.chosen(k), m.chosen(k)); break;
      case 10: same("sum(" + c + ")", t.sum(c), m.sum(c)); break;
      case 11: same("least(" + c + ")", t.least(c), m.least(c)); break;
      case 12: same("ranked(" + c + ", " + k + ")", t.ranked(c, k), m.ranked(c, k)); break;
      case 13: same("different(" + c + ")", t.different(c), m.different(c)); break;
      default: same("commonest(" + c + ")", t.commonest(c), m.commonest(c)); break;
    }
  }

  public static void main(String[] args) {
    for (run = 0; run < RUNS && wrong < 20; run++) {
      state = run * 7919L + 17;
      style = run % 9;
      last = any();
      PackedColumns t = new PackedColumns();
      Model m = new Model();
      int changes = 20 + below(60);
      int before = wrong;
      for (call = 1; call <= CALLS && wrong == before; call++) {
        if (below(100) < changes) {
          oneChange(t, m);
        } else {
          oneQuestion(t, m);
        }
      }
    }
    System.out.println(run + " runs beside the model, " + wrong + " answers not as due");
    if (wrong != 0) {
      System.exit(1);
    }
  }
}
