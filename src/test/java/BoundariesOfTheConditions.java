// The sentences about conditions and chosen rows: Terms, and promises 12 to 16.
public final class BoundariesOfTheConditions extends SentenceTest {
  public static void main(String[] args) {
    terms();
    promises12And13();
    promise14();
    promises15And16();
    end();
  }

  private static void terms() {
    sentence("There are up to 4 CONDITIONS", BoundariesOfTheConditions::upToFour);
    sentence("a row is CHOSEN if it is not deleted", BoundariesOfTheConditions::notDeleted);
    sentence("and each condition's column", BoundariesOfTheConditions::eachCondition);
    sentence("has, in this row, a value from the first bound to the second one", BoundariesOfTheConditions::fromFirstToSecond);
    sentence("A condition with a first bound above the second is met by no row", BoundariesOfTheConditions::metByNoRow);
  }

  private static void promises12And13() {
    sentence("12: Adds a condition", BoundariesOfTheConditions::adds);
    sentence("12: FULL if there are 4", BoundariesOfTheConditions::fullAtFour);
    sentence("12: Otherwise the number of conditions", BoundariesOfTheConditions::numberOfConditions);
    sentence("13: No condition from now on", BoundariesOfTheConditions::noCondition);
    sentence("13: Answers how many there were", BoundariesOfTheConditions::howManyThereWere);
  }

  private static void promise14() {
    sentence("14: The number of blocks", BoundariesOfTheConditions::passedBlocks);
    sentence("14: for which some condition is met by none", BoundariesOfTheConditions::someCondition);
    sentence("14: by none of the values", BoundariesOfTheConditions::noneOfTheValues);
    sentence("14: that its column was packed with there", BoundariesOfTheConditions::wasPackedWith);
  }

  private static void promises15And16() {
    sentence("15: The number of chosen rows", BoundariesOfTheConditions::counts);
    sentence("16: The number of the k-th chosen row (0 is the first)", BoundariesOfTheConditions::chosenRows);
    sentence("16: NONE if there is none", BoundariesOfTheConditions::noChosenRow);
  }

  // ---- Terms ----

  private static void upToFour() {
    Table t = Table.counted(20);
    for (int i = 0; i < 4; i++) {
      due("condition " + i, t.condition(0, i, MAX), i + 1);
      due("count with it", t.count(), 20 - i);
    }
    due("a fifth", t.condition(0, 10, MAX), FULL);
    due("count without it", t.count(), 17);
  }

  private static void notDeleted() {
    Table t = Table.counted(18);
    t.condition(2, 7, 7);
    for (int r : new int[] {0, 15, 16, 17}) {
      int before = t.count();
      t.delete(r);
      due("without row " + r, t.count(), before - 1);
    }
    due("the first one", t.chosen(0), 1);
    due("the last one", t.chosen(13), 14);
    due("none behind it", t.chosen(14), NONE);
    t.free();
    due("without a condition, too", t.count(), 14);
    t.compact();
    due("after compact", t.count(), 14);
    t.append(7, 7, 7);
    due("a new row on a number that was deleted", t.count(), 15);
  }

  private static void eachCondition() {
    // Each of the four is, in turn, the one that counts; the others are met by all rows.
    for (int place = 0; place < 4; place++) {
      for (int c = 0; c < 3; c++) {
        Table t = new Table();
        for (int i = 0; i < 20; i++) {
          t.append(i, 100 + i, 200 + i);
        }
        for (int i = 0; i < 4; i++) {
          boolean counts = i == place;
          t.condition(counts ? c : (c + 1) % 3, counts ? 100 * c + 14 : MIN, counts ? 100 * c + 16 : MAX);
        }
        due("condition " + place + " on column " + c, t.count(), 3);
        due("the first", t.chosen(0), 14);
        due("the last", t.chosen(2), 16);
      }
    }
    Table t = Table.counted(20);
    t.condition(0, 5, 10);
    t.condition(0, 10, 15);
    due("both on one column", t.count(), 1);
    t.condition(1, 90, 90);
    due("and a third", t.count(), 1);
    t.condition(1, 91, 91);
    due("and a fourth", t.count(), 0);
  }

  private static void fromFirstToSecond() {
    for (int v : new int[] {MIN, MIN + 1, -1, 0, 1, MAX - 1, MAX}) {
      for (int c = 0; c < 3; c++) {
        meets(true, v, c, v, v);
        meets(true, v, c, MIN, MAX);
        meets(true, v, c, v, MAX);
        meets(true, v, c, MIN, v);
        if (v > MIN) {
          meets(false, v, c, MIN, v - 1);
          meets(true, v, c, v - 1, v);
        }
        if (v < MAX) {
          meets(false, v, c, v + 1, MAX);
          meets(true, v, c, v, v + 1);
        }
      }
    }
    // bounds whose distance is no int
    meets(true, 0, 0, -2000000000, 2000000000);
    meets(false, -2000000001, 0, -2000000000, 2000000000);
    meets(false, 2000000001, 0, -2000000000, 2000000000);
  }

  /** A row with the value v in column c is chosen, or not: loose, in a block, and patched. */
  private static void meets(boolean met, int v, int c, int low, int high) {
    Table t = new Table();
    int apart = v == 12 ? 13 : 12;
    for (int i = 0; i < 17; i++) {
      t.append(c == 0 ? v : apart, c == 1 ? v : apart, c == 2 ? v : apart);
    }
    t.condition(c, low, high);
    String what = v + " in column " + c + " from " + low + " to " + high;
    due(what, t.count(), met ? 17 : 0);
    due(what + ", passed", t.passed(), met ? 0 : 1);
    t.change(3, c, v - 1);
    t.change(3, c, v);
    due(what + ", patched", t.count(), met ? 17 : 0);
  }

  private static void metByNoRow() {
    for (int v : new int[] {MIN, MIN + 1, -1, 0, 1, MAX - 1, MAX}) {
      meets(false, v, 0, MAX, MIN);
      meets(false, v, 1, 1, 0);
      meets(false, v, 2, 1, -1);
      if (v < MAX) {
        meets(false, v, 0, v + 1, v);
      }
      if (v > MIN) {
        meets(false, v, 0, v, v - 1);
      }
      meets(true, v, 0, v, v);
    }
    Table t = Table.counted(20);
    due("it is a condition", t.condition(0, 1, 0), 1);
    due("and counts as one", t.condition(0, 0, 1), 2);
    due("and no other helps", t.count(), 0);
  }

  // ---- Promises 12 and 13 ----

  private static void adds() {
    Table t = Table.counted(20);
    due("before", t.count(), 20);
    t.condition(0, 3, 9);
    due("a first", t.count(), 7);
    t.condition(1, 92, 95);
    due("a second", t.count(), 4);
    t.condition(0, 3, 9);
    due("the first again", t.count(), 4);
    due("three of them", t.free(), 3);
    Table s = new Table();
    s.condition(0, 5, 5);
    s.append(5, 0, 0);
    s.append(6, 0, 0);
    due("for later rows, too", s.count(), 1);
  }

  private static void fullAtFour() {
    Table t = Table.counted(20);
    for (int i = 1; i <= 4; i++) {
      due("condition " + i, t.condition(i % 3, MIN, MAX), i);
    }
    due("the fifth", t.condition(0, MIN, MAX), FULL);
    due("the fifth again", t.condition(0, MIN, MAX), FULL);
    due("there are four", t.free(), 4);
    due("room anew", t.condition(0, MIN, MAX), 1);
    for (int c = 0; c < 3; c++) {
      int column = c;
      refused(FULL, Table::full, s -> s.condition(column, 1, 0));
      refused(FULL, Table::full, s -> s.condition(column, MIN, MAX));
    }
  }

  private static void numberOfConditions() {
    Table t = new Table();
    due("the first", t.condition(2, 1, 0), 1);
    due("the same", t.condition(2, 1, 0), 2);
    due("another", t.condition(0, MIN, MIN), 3);
    t.compact();
    due("after compact", t.condition(1, MAX, MAX), 4);
    t.free();
    due("after free", t.condition(1, MAX, MAX), 1);
  }

  private static void noCondition() {
    for (int n = 0; n <= 4; n++) {
      Table t = Table.counted(20);
      for (int i = 0; i < n; i++) {
        t.condition(i % 3, 1, 0);
      }
      due("count with " + n, t.count(), n == 0 ? 20 : 0);
      due("passed with " + n, t.passed(), n == 0 ? 0 : 1);
      due("free of " + n, t.free(), n);
      due("count after " + n, t.count(), 20);
      due("passed after " + n, t.passed(), 0);
      due("a new one after " + n, t.condition(0, 4, 5), 1);
      due("alone", t.count(), 2);
    }
  }

  private static void howManyThereWere() {
    changesNothing(0, () -> Table.counted(20), Table::free);
    changesNothing(0, Table::new, Table::free);
    Table t = Table.counted(3);
    for (int n = 0; n <= 6; n++) {
      for (int i = 0; i < n; i++) {
        t.condition(0, i, 9);
      }
      due("after " + n + " calls", t.free(), n < 4 ? n : 4);
      due("again", t.free(), 0);
    }
    t.condition(3, 0, 0);
    due("after a refused one", t.free(), 0);
  }

  // ---- Promise 14 ----

  private static void passedBlocks() {
    for (int n : new int[] {0, 1, 15, 16, 17, 31, 32, 33, 95, 96}) {
      Table t = Table.counted(n);
      due("without a condition, of " + n, t.passed(), 0);
      t.condition(2, 7, 7);
      due("all met, of " + n, t.passed(), 0);
      t.condition(2, 8, 8);
      due("none met, of " + n, t.passed(), n / 16);
      t.free();
      t.condition(0, 0, 15);
      due("only block 0, of " + n, t.passed(), n < 16 ? 0 : n / 16 - 1);
    }
    Table s = Table.counted(96);
    s.condition(0, 80, 95);
    due("only block 5", s.passed(), 5);
    s.delete(95);
    s.compact();
    due("which is gone", s.passed(), 5);
  }

  private static void someCondition() {
    for (int place = 0; place < 4; place++) {
      Table t = Table.counted(48);
      for (int i = 0; i < 4; i++) {
        t.condition(i == place ? 0 : 2, i == place ? 16 : 7, i == place ? 31 : 7);
      }
      due("condition " + place, t.passed(), 2);
    }
    Table t = Table.counted(48);
    t.condition(0, 0, 15);
    t.condition(0, 16, 31);
    due("another one in each block", t.passed(), 3);
    Table s = Table.counted(16);
    s.condition(0, 0, 0);
    s.condition(0, 15, 15);
    due("each met by another row", s.passed(), 0);
    due("though no row is chosen", s.count(), 0);
    s.condition(1, 84, 84);
    due("and one met by none", s.passed(), 1);
  }

  private static void noneOfTheValues() {
    for (int r = 0; r < 16; r++) {
      Table t = new Table();
      for (int i = 0; i < 16; i++) {
        t.append(i == r ? 50 : 10 + 80 * (i % 2), 0, 0);
      }
      passes(t, 0, 50, 50);
      passes(t, 1, 49, 49);
      passes(t, 1, 51, 51);
      passes(t, 0, 49, 51);
      // between the least and the greatest value, but there is none
      passes(t, 1, 11, 49);
      passes(t, 1, 51, 89);
      passes(t, 0, 50, 89);
      passes(t, 0, 11, 50);
      passes(t, 1, MIN, 9);
      passes(t, 1, 91, MAX);
      passes(t, 0, MIN, 10);
      passes(t, 0, 90, MAX);
      passes(t, 1, 90, 10);
      passes(t, 1, 51, 50);
    }
    Table ends = Table.first(MIN, MIN, MIN, MIN, MIN, MIN, MIN, MIN, MAX, MAX, MAX, MAX, MAX, MAX, MAX, MAX);
    passes(ends, 0, MIN, MIN);
    passes(ends, 0, MAX, MAX);
    passes(ends, 1, MIN + 1, MAX - 1);
    passes(ends, 1, MAX, MIN);
  }

  private static void passes(Table t, int blocks, int low, int high) {
    t.condition(0, low, high);
    due("passed, from " + low + " to " + high, t.passed(), blocks);
    t.free();
  }

  private static void wasPackedWith() {
    Table t = Table.counted(32);
    t.change(20, 0, 500);
    passes(t, 2, 500, 500);
    passes(t, 1, 20, 20);
    t.compact();
    passes(t, 1, 500, 500);
    passes(t, 2, 20, 20);
    t.change(20, 0, 20);
    passes(t, 1, 500, 500);
    passes(t, 2, 20, 20);
    t.delete(20);
    passes(t, 1, 500, 500);
    t.compact();
    // 31 rows, so that those from 16 on are loose
    passes(t, 1, 16, 16);
    passes(t, 0, 15, 15);
    passes(t, 0, 0, 0);
    Table s = Table.counted(15);
    s.delete(14);
    passes(s, 0, 14, 14);
    s.append(15, 0, 0);
    passes(s, 0, 14, 14);
    passes(s, 1, 16, 16);
    s.append(16, 0, 0);
    passes(s, 1, 16, 16);
    s.compact();
    passes(s, 0, 16, 16);
    passes(s, 1, 14, 14);
    Table u = Table.counted(16);
    u.condition(1, 85, 85);
    due("its own column", u.passed(), 0);
    u.condition(0, 85, 85);
    due("and no other one", u.passed(), 1);
  }

  // ---- Promises 15 and 16 ----

  private static void counts() {
    due("no row", new Table().count(), 0);
    due("a row", Table.counted(1).count(), 1);
    Table t = Table.counted(96);
    due("96 rows", t.count(), 96);
    t.condition(0, 95, 95);
    due("the last one", t.count(), 1);
    t.delete(95);
    due("none", t.count(), 0);
    t.free();
    due("95", t.count(), 95);
    t.condition(0, 0, 0);
    due("the first one", t.count(), 1);
    t.change(0, 0, 1);
    due("with its value of now", t.count(), 0);
    t.change(94, 0, 0);
    due("with another one's value of now", t.count(), 1);
  }

  private static void chosenRows() {
    Table t = Table.counted(96);
    for (int k = 0; k < 96; k++) {
      due("of all, " + k, t.chosen(k), k);
    }
    for (int r = 0; r < 96; r += 2) {
      t.delete(r);
    }
    for (int k = 0; k < 48; k++) {
      due("of each second, " + k, t.chosen(k), 2 * k + 1);
    }
    t.condition(0, 31, 35);
    due("within, the first", t.chosen(0), 31);
    due("within, the second", t.chosen(1), 33);
    due("within, the last", t.chosen(2), 35);
    t.compact();
    due("numbered anew", t.chosen(0), 15);
  }

  private static void noChosenRow() {
    for (int k : new int[] {-1, 20, 21, 95, 96, MIN, MAX}) {
      refused(NONE, () -> Table.counted(20), t -> t.chosen(k));
    }
    due("the last of 20", Table.counted(20).chosen(19), 19);
    refused(NONE, Table::new, t -> t.chosen(0));
    // rows 2 to 18 of halfway() but for 4 and 17
    due("the last of 15", Table.halfway().chosen(14), 18);
    refused(NONE, Table::halfway, t -> t.chosen(15));
    refused(NONE, Table::halfway, t -> t.chosen(-1));
    refused(NONE, Table::full, t -> t.chosen(96));
    refused(NONE, BoundariesOfTheConditions::noneChosen, t -> t.chosen(0));
    Table s = Table.counted(20);
    s.delete(0);
    due("19 of 20", s.chosen(18), 19);
    due("none behind it", s.chosen(19), NONE);
  }

  private static Table noneChosen() {
    Table t = Table.counted(20);
    t.condition(0, 1, 0);
    return t;
  }
}
