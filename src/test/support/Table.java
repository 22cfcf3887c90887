import java.util.ArrayList;
import java.util.List;
import java.util.function.IntSupplier;

/** A PackedColumns that writes down each call with its answer, and tells when one throws. */
final class Table {
  // The document leaves the answers of later calls free, so a test that makes them tests nothing.
  static final int MOST_CALLS = 512;
  static final int THREW = -555555555;

  private final PackedColumns held = new PackedColumns();
  private final List<String> told = new ArrayList<>();

  // ---- Tables that the tests start from ----

  /** Row i is (i, 100 - i, 7). */
  static Table counted(int rows) {
    Table t = new Table();
    for (int i = 0; i < rows; i++) {
      t.append(i, 100 - i, 7);
    }
    return t;
  }

  /** The values stand in column 0, row by row; the other columns are 0. */
  static Table first(int... values) {
    Table t = new Table();
    for (int v : values) {
      t.append(v, 0, 0);
    }
    return t;
  }

  /** counted(rows) with so many patches, all in column 2 from row 0 on: 50, 51, .. */
  static Table patched(int rows, int patches) {
    Table t = counted(rows);
    for (int i = 0; i < patches; i++) {
      t.change(i, 2, 50 + i);
    }
    return t;
  }

  /** Every limit is reached: 96 rows, 20 patches, 4 conditions; rows 3, 40 and 95 are deleted. */
  static Table full() {
    Table t = patched(96, 20);
    t.delete(3);
    t.delete(40);
    t.delete(95);
    t.condition(0, 2, 90);
    t.condition(1, 0, 1000);
    t.condition(2, 7, 60);
    t.condition(2, Integer.MIN_VALUE, Integer.MAX_VALUE);
    return t;
  }

  /** No limit is reached: 20 rows, 4 of them loose, 5 patches, a condition; rows 4 and 17 are deleted. */
  static Table halfway() {
    Table t = patched(20, 5);
    t.delete(4);
    t.delete(17);
    t.condition(0, 2, 18);
    return t;
  }

  // ---- The calls ----

  private int tell(String call, IntSupplier answer) {
    int got = THREW;
    try {
      got = answer.getAsInt();
    } catch (RuntimeException | StackOverflowError e) {
      SentenceTest.fault(call + " threw " + e);
    }
    told.add(call + " answered " + got);
    if (told.size() == MOST_CALLS + 1) {
      SentenceTest.fault("the test makes more than " + MOST_CALLS + " calls on one object");
    }
    return got;
  }

  int calls() {
    return told.size();
  }

  List<String> toldFrom(int call) {
    return told.subList(call, told.size());
  }

  int append(int x, int y, int z) {
    return tell("append(" + x + ", " + y + ", " + z + ")", () -> held.append(x, y, z));
  }

  int change(int r, int c, int x) {
    return tell("change(" + r + ", " + c + ", " + x + ")", () -> held.change(r, c, x));
  }

  int delete(int r) {
    return tell("delete(" + r + ")", () -> held.delete(r));
  }

  int compact() {
    return tell("compact()", held::compact);
  }

  int rows() {
    return tell("rows()", held::rows);
  }

  int value(int r, int c) {
    return tell("value(" + r + ", " + c + ")", () -> held.value(r, c));
  }

  int blocks() {
    return tell("blocks()", held::blocks);
  }

  int form(int b, int c) {
    return tell("form(" + b + ", " + c + ")", () -> held.form(b, c));
  }

  int digits(int c) {
    return tell("digits(" + c + ")", () -> held.digits(c));
  }

  int patches() {
    return tell("patches()", held::patches);
  }

  int condition(int c, int low, int high) {
    return tell("condition(" + c + ", " + low + ", " + high + ")", () -> held.condition(c, low, high));
  }

  int free() {
    return tell("free()", held::free);
  }

  int passed() {
    return tell("passed()", held::passed);
  }

  int count() {
    return tell("count()", held::count);
  }

  int chosen(int k) {
    return tell("chosen(" + k + ")", () -> held.chosen(k));
  }

  int sum(int c) {
    return tell("sum(" + c + ")", () -> held.sum(c));
  }

  int least(int c) {
    return tell("least(" + c + ")", () -> held.least(c));
  }

  int ranked(int c, int k) {
    return tell("ranked(" + c + ", " + k + ")", () -> held.ranked(c, k));
  }

  int different(int c) {
    return tell("different(" + c + ")", () -> held.different(c));
  }

  int commonest(int c) {
    return tell("commonest(" + c + ")", () -> held.commonest(c));
  }
}
