import java.util.ArrayList;
import java.util.List;
import java.util.function.Supplier;
import java.util.function.ToIntFunction;

// The sentences that hold for all calls: a wrong column, what a refused call leaves, and that none throws.
public final class RefusedCalls extends SentenceTest {
  private static final int[] NO_COLUMN = {-1, 3, 4, MIN, MAX};
  private static final int[] ODD = {MIN, MIN + 1, -97, -96, -17, -16, -1, 0, 1, 2, 3, 15, 16, 19, 20, 95, 96, 97, MAX - 1, MAX};
  private static final List<Supplier<Table>> STARTS =
      List.of(Table::new, Table::halfway, Table::full, () -> Table.counted(16), () -> Table.patched(32, 19));

  public static void main(String[] args) {
    sentence("BAD_ARG = -1000000001, FULL = -1000000002, NONE = -1000000003", RefusedCalls::constants);
    sentence("In all calls with a column c, one that is not 0 to 2 answers BAD_ARG", RefusedCalls::badColumns);
    sentence("columns 0 to 2 are not refused", RefusedCalls::goodColumns);
    sentence("before anything else", RefusedCalls::beforeAnythingElse);
    sentence("No call ever throws", RefusedCalls::neverThrows);
    sentence("A refused call answers the code named and changes nothing", RefusedCalls::allRefusals);
    sentence("Nothing is promised beyond the answers and state changes described: a question changes nothing",
        RefusedCalls::questionsChangeNothing);
    end();
  }

  private static void constants() {
    due("BAD_ARG", PackedColumns.BAD_ARG, BAD);
    due("FULL", PackedColumns.FULL, FULL);
    due("NONE", PackedColumns.NONE, NONE);
  }

  // ---- Columns ----

  private static List<ToIntFunction<Table>> withColumn(int c) {
    return List.of(
        t -> t.change(2, c, Sequels.STRANGE), t -> t.value(2, c), t -> t.form(0, c), t -> t.digits(c),
        t -> t.condition(c, Sequels.STRANGE, Sequels.STRANGE), t -> t.sum(c), t -> t.least(c), t -> t.ranked(c, 0),
        t -> t.different(c), t -> t.commonest(c));
  }

  private static void badColumns() {
    for (int c : NO_COLUMN) {
      for (ToIntFunction<Table> call : withColumn(c)) {
        refused(BAD, Table::halfway, call);
      }
    }
  }

  /** The same calls at the lower and the upper end of the columns, on (i, 100 - i, 7). */
  private static void goodColumns() {
    int[] lower = {2, 2, 5, 70, 1, 120, 0, 15, 16, 0};
    int[] middle = {98, 98, 5, 70, 1, 1480, 85, 100, 16, 85};
    int[] upper = {7, 7, 1, 32, 1, 112, 7, 7, 1, 7};
    for (int i = 0; i < 10; i++) {
      due("call " + i + ", column 0", withColumn(0).get(i).applyAsInt(Table.counted(16)), lower[i]);
      due("call " + i + ", column 1", withColumn(1).get(i).applyAsInt(Table.counted(16)), middle[i]);
      due("call " + i + ", column 2", withColumn(2).get(i).applyAsInt(Table.counted(16)), upper[i]);
    }
  }

  private static void beforeAnythingElse() {
    for (int c : NO_COLUMN) {
      // no row, a deleted row, 20 patches
      refused(BAD, Table::halfway, t -> t.change(20, c, 1));
      refused(BAD, Table::halfway, t -> t.change(-1, c, 1));
      refused(BAD, Table::halfway, t -> t.change(4, c, 1));
      refused(BAD, Table::full, t -> t.change(50, c, 1));
      refused(BAD, Table::halfway, t -> t.value(20, c));
      refused(BAD, Table::halfway, t -> t.value(MIN, c));
      refused(BAD, Table::halfway, t -> t.value(17, c));
      // no block, four conditions, no k-th value
      refused(BAD, Table::halfway, t -> t.form(1, c));
      refused(BAD, Table::halfway, t -> t.form(-1, c));
      refused(BAD, Table::full, t -> t.condition(c, 0, 0));
      refused(BAD, Table::halfway, t -> t.ranked(c, -1));
      refused(BAD, Table::halfway, t -> t.ranked(c, 96));
      // nothing there at all
      for (ToIntFunction<Table> call : withColumn(c)) {
        refused(BAD, Table::new, call);
      }
    }
  }

  // ---- No call throws ----

  private static void neverThrows() {
    for (Supplier<Table> start : STARTS) {
      for (int a : ODD) {
        Table t = start.get();
        noted(t.delete(a));
        noted(t.chosen(a));
        noted(t.digits(a));
        noted(t.sum(a));
        noted(t.least(a));
        noted(t.different(a));
        noted(t.commonest(a));
        for (int b : ODD) {
          noted(t.value(a, b));
          noted(t.form(a, b));
          noted(t.ranked(a, b));
          noted(t.change(a, b, MIN));
          noted(t.condition(a, b, MIN));
          noted(t.condition(a, MAX, b));
        }
        noted(t.append(a, a, a));
        noted(t.passed() + t.count() + t.patches() + t.blocks() + t.rows());
        noted(t.free());
        noted(t.compact());
      }
      emptied(start.get());
    }
  }

  /** All rows deleted, before and after they go. */
  private static void emptied(Table t) {
    for (int r = -1; r < 97; r++) {
      noted(t.delete(r));
    }
    for (int round = 0; round < 2; round++) {
      for (int c = -1; c < 4; c++) {
        noted(t.digits(c));
        noted(t.sum(c));
        noted(t.least(c));
        noted(t.ranked(c, 0));
        noted(t.different(c));
        noted(t.commonest(c));
        noted(t.form(0, c));
        noted(t.value(0, c));
        noted(t.change(0, c, 1));
      }
      noted(t.passed());
      noted(t.count());
      noted(t.chosen(0));
      noted(t.compact());
    }
    due("rows in the end", t.rows(), 0);
  }

  // The table itself tells of a call that throws.
  private static void noted(int answer) {
    due("a call threw", answer == Table.THREW ? 1 : 0, 0);
  }

  // ---- Refused calls and questions ----

  /** Every kind of refusal that the document names, in tables where all limits are reached. */
  private static void allRefusals() {
    int s = Sequels.STRANGE;
    refused(FULL, Table::full, t -> t.append(s, s, s));
    refused(FULL, Table::full, t -> t.change(94, 0, s));
    refused(FULL, Table::full, t -> t.condition(0, s, s));
    refused(NONE, Table::full, t -> t.change(3, 2, s));
    refused(NONE, Table::full, t -> t.change(96, 2, s));
    refused(NONE, Table::full, t -> t.delete(3));
    refused(NONE, Table::full, t -> t.delete(96));
    refused(NONE, Table::full, t -> t.value(40, 0));
    refused(NONE, Table::full, t -> t.form(6, 0));
    refused(NONE, Table::full, t -> t.chosen(-1));
    refused(NONE, Table::full, t -> t.ranked(0, -1));
    refused(NONE, RefusedCalls::nothingChosen, t -> t.least(0));
    refused(NONE, RefusedCalls::nothingChosen, t -> t.commonest(0));
    for (ToIntFunction<Table> call : withColumn(3)) {
      refused(BAD, Table::full, call);
    }
  }

  private static Table nothingChosen() {
    Table t = Table.patched(96, 20);
    t.delete(95);
    t.condition(2, 1, 0);
    return t;
  }

  private static void questionsChangeNothing() {
    List<ToIntFunction<Table>> questions = new ArrayList<>(List.of(
        Table::rows, Table::blocks, Table::patches, Table::passed, Table::count, t -> t.chosen(3)));
    for (int i = 0; i < 3; i++) {
      int c = i;
      questions.addAll(List.of(
          t -> t.value(5, c), t -> t.form(0, c), t -> t.digits(c), t -> t.sum(c), t -> t.least(c),
          t -> t.ranked(c, 1), t -> t.different(c), t -> t.commonest(c)));
    }
    for (ToIntFunction<Table> question : questions) {
      changesNothing(question.applyAsInt(Table.halfway()), Table::halfway, question);
      changesNothing(question.applyAsInt(Table.full()), Table::full, question);
    }
  }
}
