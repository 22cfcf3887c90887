// The sentences about the values of the chosen rows: promises 17 to 21.
public final class BoundariesOfTheQuestions extends SentenceTest {
  public static void main(String[] args) {
    sentence("17: The sum of column c over the chosen rows", BoundariesOfTheQuestions::sums);
    sentence("17: wrapping", BoundariesOfTheQuestions::sumWraps);
    sentence("18: The least value of column c in a chosen row", BoundariesOfTheQuestions::leastValue);
    sentence("18: NONE if none is chosen", BoundariesOfTheQuestions::leastOfNone);
    sentence("18: the value can be -1000000003 too", BoundariesOfTheQuestions::leastLikeNone);
    sentence("19: The k-th value (0 is the first), by falling value", BoundariesOfTheQuestions::rankedValues);
    sentence("19: equal ones counted each", BoundariesOfTheQuestions::rankedEqual);
    sentence("19: NONE if there is none", BoundariesOfTheQuestions::rankedNone);
    sentence("20: The number of different values of column c in chosen rows", BoundariesOfTheQuestions::differentValues);
    sentence("21: The value of column c that the most chosen rows have", BoundariesOfTheQuestions::commonestValue);
    sentence("21: of several the least", BoundariesOfTheQuestions::leastOfTheCommonest);
    sentence("21: NONE if none is chosen", BoundariesOfTheQuestions::commonestOfNone);
    end();
  }

  // ---- Tables in which no row is chosen, each for another reason ----

  private static Table allDeleted() {
    Table t = Table.counted(17);
    for (int r = 0; r < 17; r++) {
      t.delete(r);
    }
    return t;
  }

  private static Table noneMeets() {
    Table t = Table.counted(20);
    t.condition(0, 2, 4);
    t.condition(1, 0, 95);
    return t;
  }

  private static Table crossedBounds() {
    Table t = Table.counted(20);
    t.condition(2, 8, 6);
    return t;
  }

  /** Row 3, the only one that meets the condition, is deleted. */
  private static Table onlyDeletedMeets() {
    Table t = Table.counted(20);
    t.condition(0, 3, 3);
    t.delete(3);
    return t;
  }

  private static Table repeated(int rows, int v) {
    Table t = new Table();
    for (int i = 0; i < rows; i++) {
      t.append(v, 1, -v);
    }
    return t;
  }

  // ---- Promise 17 ----

  private static void sums() {
    due("no row", new Table().sum(0), 0);
    due("all deleted", allDeleted().sum(0), 0);
    due("none meets", noneMeets().sum(1), 0);
    due("crossed bounds", crossedBounds().sum(2), 0);
    due("only a deleted one meets", onlyDeletedMeets().sum(1), 0);
    due("one row", Table.counted(1).sum(1), 100);
    Table t = Table.counted(96);
    due("column 0", t.sum(0), 4560);
    due("column 1", t.sum(1), 9600 - 4560);
    due("column 2", t.sum(2), 672);
    t.delete(95);
    due("without the last", t.sum(0), 4465);
    t.condition(1, 98, 100);
    due("rows 0 to 2", t.sum(0), 3);
    t.change(2, 0, -1);
    due("with the value of now", t.sum(0), 0);
    t.change(2, 1, 0);
    due("rows 0 and 1", t.sum(0), 1);
  }

  private static void sumWraps() {
    due("up to MAX", Table.first(MAX - 1, 1).sum(0), MAX);
    due("over MAX", Table.first(MAX, 1).sum(0), MIN);
    due("down to MIN", Table.first(MIN + 1, -1).sum(0), MIN);
    due("under MIN", Table.first(MIN, -1).sum(0), MAX);
    due("there and back", Table.first(MAX, 1, -1).sum(0), MAX);
    due("MAX and MAX", Table.first(MAX, MAX).sum(0), -2);
    due("MIN and MIN", Table.first(MIN, MIN).sum(0), 0);
    due("MIN and MAX", Table.first(MIN, MAX).sum(0), -1);
    due("96 times MAX", repeated(96, MAX).sum(0), -96);
    due("96 times MIN", repeated(96, MIN).sum(0), 0);
    due("95 times MIN", repeated(95, MIN).sum(0), MIN);
    due("3 times MAX", repeated(3, MAX).sum(0), MAX - 2);
    due("like NONE", Table.first(NONE - 1, 1).sum(0), NONE);
    due("like BAD_ARG", Table.first(BAD, 0).sum(0), BAD);
  }

  // ---- Promise 18 ----

  private static void leastValue() {
    due("first", Table.first(-5, 3, 4).least(0), -5);
    due("in the middle", Table.first(3, -5, 4).least(0), -5);
    due("last", Table.first(3, 4, -5).least(0), -5);
    due("MIN", Table.first(3, MIN, MIN + 1).least(0), MIN);
    due("MAX", Table.first(MAX, MAX).least(0), MAX);
    due("MAX and one less", Table.first(MAX, MAX - 1).least(0), MAX - 1);
    due("one row", Table.counted(1).least(1), 100);
    Table t = Table.counted(96);
    due("of 96", t.least(1), 5);
    t.delete(95);
    due("without it", t.least(1), 6);
    t.condition(0, 10, 20);
    due("rows 10 to 20", t.least(1), 80);
    due("rows 10 to 20, column 0", t.least(0), 10);
    t.change(15, 1, 3);
    due("with the value of now", t.least(1), 3);
    t.change(10, 0, 9);
    due("rows 11 to 20", t.least(0), 11);
  }

  private static void leastOfNone() {
    for (int c = 0; c < 3; c++) {
      int column = c;
      refused(NONE, Table::new, t -> t.least(column));
      refused(NONE, BoundariesOfTheQuestions::allDeleted, t -> t.least(column));
      refused(NONE, BoundariesOfTheQuestions::noneMeets, t -> t.least(column));
      refused(NONE, BoundariesOfTheQuestions::crossedBounds, t -> t.least(column));
      refused(NONE, BoundariesOfTheQuestions::onlyDeletedMeets, t -> t.least(column));
    }
    Table t = onlyDeletedMeets();
    t.change(4, 0, 3);
    due("one is chosen", t.least(1), 96);
  }

  private static void leastLikeNone() {
    due("the value", Table.first(NONE).least(0), NONE);
    due("with a greater one", Table.first(NONE, NONE + 1).least(0), NONE);
    due("behind a greater one", Table.first(5, NONE).least(0), NONE);
    due("with a lesser one behind it", Table.first(NONE, NONE - 1).least(0), NONE - 1);
    due("with a lesser one before it", Table.first(NONE - 1, NONE).least(0), NONE - 1);
    due("one more alone", Table.first(NONE + 1).least(0), NONE + 1);
    due("like FULL", Table.first(FULL, 0).least(0), FULL);
    due("like BAD_ARG", Table.first(BAD, 0).least(0), BAD);
    due("MIN behind it", Table.first(NONE, MIN).least(0), MIN);
  }

  // ---- Promise 19 ----

  private static void rankedValues() {
    int[] rising = {MIN, NONE, -1, 0, 1, MAX};
    int[][] orders = {{0, 1, 2, 3, 4, 5}, {5, 4, 3, 2, 1, 0}, {3, 0, 5, 1, 4, 2}, {2, 5, 0, 4, 1, 3}};
    for (int[] order : orders) {
      Table t = new Table();
      for (int i : order) {
        t.append(0, rising[i], 0);
      }
      for (int k = 0; k < 6; k++) {
        due("rank " + k, t.ranked(1, k), rising[5 - k]);
      }
      due("behind the last", t.ranked(1, 6), NONE);
    }
    Table t = Table.counted(96);
    for (int k = 0; k < 96; k++) {
      due("column 0 of 96, rank " + k, t.ranked(0, k), 95 - k);
      due("column 1 of 96, rank " + k, t.ranked(1, k), 100 - k);
    }
    t.condition(0, 10, 20);
    due("rows 10 to 20, the first", t.ranked(1, 0), 90);
    due("rows 10 to 20, the last", t.ranked(1, 10), 80);
    t.delete(10);
    due("rows 11 to 20", t.ranked(1, 0), 89);
    t.change(20, 1, 99);
    due("with the value of now", t.ranked(1, 0), 99);
  }

  private static void rankedEqual() {
    int[] falling = {9, 9, 9, 4, 4, MIN, MIN};
    Table t = Table.first(4, MIN, 9, 9, 4, MIN, 9);
    for (int k = 0; k < 7; k++) {
      due("rank " + k, t.ranked(0, k), falling[k]);
    }
    due("behind the last", t.ranked(0, 7), NONE);
    Table s = repeated(96, MAX);
    due("the first of 96", s.ranked(0, 0), MAX);
    due("the last of 96", s.ranked(0, 95), MAX);
    due("none behind it", s.ranked(0, 96), NONE);
    t.delete(2);
    due("two of three left", t.ranked(0, 1), 9);
    due("and the next one", t.ranked(0, 2), 4);
  }

  private static void rankedNone() {
    for (int k : new int[] {-1, 20, 21, 96, MIN, MAX}) {
      refused(NONE, () -> Table.counted(20), t -> t.ranked(1, k));
    }
    due("the last of 20", Table.counted(20).ranked(1, 19), 81);
    // the chosen rows of halfway() are 15
    due("the last of 15", Table.halfway().ranked(0, 14), 2);
    refused(NONE, Table::halfway, t -> t.ranked(0, 15));
    refused(NONE, Table::new, t -> t.ranked(0, 0));
    refused(NONE, BoundariesOfTheQuestions::allDeleted, t -> t.ranked(0, 0));
    refused(NONE, BoundariesOfTheQuestions::noneMeets, t -> t.ranked(0, 0));
    refused(NONE, BoundariesOfTheQuestions::crossedBounds, t -> t.ranked(2, 0));
    refused(NONE, BoundariesOfTheQuestions::onlyDeletedMeets, t -> t.ranked(0, 0));
    due("a value like NONE", Table.first(NONE, 4).ranked(0, 1), NONE);
  }

  // ---- Promise 20 ----

  private static void differentValues() {
    due("no row", new Table().different(0), 0);
    due("all deleted", allDeleted().different(0), 0);
    due("none meets", noneMeets().different(0), 0);
    due("crossed bounds", crossedBounds().different(0), 0);
    due("only a deleted one meets", onlyDeletedMeets().different(0), 0);
    due("one row", Table.counted(1).different(0), 1);
    due("96 the same", repeated(96, MIN).different(0), 1);
    Table t = Table.counted(96);
    due("96 of 96", t.different(0), 96);
    t.change(95, 0, 0);
    due("the last as the first", t.different(0), 95);
    t.delete(0);
    due("one of the two is left", t.different(0), 95);
    t.delete(95);
    due("none of the two is left", t.different(0), 94);
    due("column 2", t.different(2), 1);
    t.condition(0, 10, 20);
    due("rows 10 to 20", t.different(1), 11);
    due("the ends of the ints", Table.first(MIN, MAX, MIN, MAX, NONE, 0).different(0), 4);
    due("neighbours", Table.first(MIN, MIN + 1, MAX, MAX - 1).different(0), 4);
    Table s = Table.first(5, 5, 6);
    s.condition(0, 5, 5);
    due("only the chosen ones", s.different(0), 1);
  }

  // ---- Promise 21 ----

  private static void commonestValue() {
    due("one row", Table.first(8).commonest(0), 8);
    due("first", Table.first(8, 8, 1).commonest(0), 8);
    due("last", Table.first(1, 8, 8).commonest(0), 8);
    due("apart", Table.first(8, 1, 8).commonest(0), 8);
    due("three against two", Table.first(1, 8, 8, 1, 8).commonest(0), 8);
    due("MIN", Table.first(MIN, 0, MIN).commonest(0), MIN);
    due("MAX", Table.first(MAX, 0, MAX).commonest(0), MAX);
    due("like NONE", Table.first(NONE, -1, NONE).commonest(0), NONE);
    due("96 the same", repeated(96, -4).commonest(0), -4);
    Table t = Table.first(1, 8, 8, 1, 8, 1, 1);
    due("four against three", t.commonest(0), 1);
    t.delete(0);
    t.delete(3);
    due("without the deleted", t.commonest(0), 8);
    t.condition(0, 0, 7);
    due("only the chosen", t.commonest(0), 1);
    t.free();
    t.change(5, 0, 6);
    t.change(6, 0, 6);
    t.change(4, 0, 6);
    due("with the values of now", t.commonest(0), 6);
    Table s = Table.counted(20);
    s.condition(0, 5, 9);
    due("column 2", s.commonest(2), 7);
    due("column 1, all once", s.commonest(1), 91);
  }

  private static void leastOfTheCommonest() {
    due("the lesser first", Table.first(3, 9, 3, 9).commonest(0), 3);
    due("the lesser last", Table.first(9, 3, 9, 3).commonest(0), 3);
    due("a still lesser one, once", Table.first(9, 3, 9, 3, 1).commonest(0), 3);
    due("of three", Table.first(5, 4, 6, 6, 5, 4).commonest(0), 4);
    due("all once", Table.first(7, 2, 5, 3).commonest(0), 2);
    due("MIN and MAX", Table.first(MAX, MIN).commonest(0), MIN);
    due("below NONE", Table.first(NONE, NONE - 1).commonest(0), NONE - 1);
    due("above NONE", Table.first(NONE + 2, NONE + 1).commonest(0), NONE + 1);
    due("NONE and one more", Table.first(NONE + 1, NONE).commonest(0), NONE);
    due("of 96, all once", Table.counted(96).commonest(1), 5);
    Table t = Table.first(9, 3, 9, 3);
    t.delete(1);
    due("one of the lesser deleted", t.commonest(0), 9);
  }

  private static void commonestOfNone() {
    for (int c = 0; c < 3; c++) {
      int column = c;
      refused(NONE, Table::new, t -> t.commonest(column));
      refused(NONE, BoundariesOfTheQuestions::allDeleted, t -> t.commonest(column));
      refused(NONE, BoundariesOfTheQuestions::noneMeets, t -> t.commonest(column));
      refused(NONE, BoundariesOfTheQuestions::crossedBounds, t -> t.commonest(column));
      refused(NONE, BoundariesOfTheQuestions::onlyDeletedMeets, t -> t.commonest(column));
    }
    Table t = onlyDeletedMeets();
    t.change(4, 0, 3);
    due("one is chosen", t.commonest(1), 96);
  }
}
