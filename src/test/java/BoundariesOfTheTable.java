// The sentences about rows, blocks, packing and patches: Terms, and promises 1 to 8, 11 and 22.
public final class BoundariesOfTheTable extends SentenceTest {
  private static final int[] NO_ROW_OF_20 = {-1, 20, 21, 95, 96, MIN, MAX};

  public static void main(String[] args) {
    terms();
    promises1And2();
    promise3();
    promises4And5();
    promises6To8();
    promises11And22();
    end();
  }

  private static void terms() {
    sentence("An object is used for at most 512 calls after it has been made", BoundariesOfTheTable::allCalls);
    sentence("rows, numbered 0, 1, .. in their order, at most 96", BoundariesOfTheTable::numbers);
    sentence("three COLUMNS, 0 to 2, of ints", BoundariesOfTheTable::columns);
    sentence("Each 16 rows, from row 0 on, that are all there are a BLOCK", BoundariesOfTheTable::blocksBegin);
    sentence("rows behind the last block are LOOSE", BoundariesOfTheTable::looseRows);
    sentence("A block is PACKED when its last row is appended", BoundariesOfTheTable::packedByAppend);
    sentence("or by the call compact, with the values that its rows have then", BoundariesOfTheTable::packedByCompact);
    sentence("later changes of values in it are PATCHES, which are kept beside it", BoundariesOfTheTable::keptBeside);
    sentence("A row can be deleted; it keeps its number and its place in its block until compact",
        BoundariesOfTheTable::keepsItsPlace);
  }

  private static void promises1And2() {
    sentence("1: No row, no condition", BoundariesOfTheTable::newObject);
    sentence("2: Appends a row with these values", BoundariesOfTheTable::appends);
    sentence("2: FULL if there are 96", BoundariesOfTheTable::fullAt96);
    sentence("2: Otherwise its number", BoundariesOfTheTable::appendedNumber);
  }

  private static void promise3() {
    sentence("3: Column c of row r becomes x", BoundariesOfTheTable::becomes);
    sentence("3: NONE if there is no row r", BoundariesOfTheTable::changeNoRow);
    sentence("3: or it is deleted", BoundariesOfTheTable::changeDeleted);
    sentence("3: Tested in this order: NONE, FULL", BoundariesOfTheTable::changeOrder);
    sentence("3: FULL if 20 places are", BoundariesOfTheTable::changeFull);
    sentence("3: FULL if the row is in a block", BoundariesOfTheTable::changeLooseAtTheLimit);
    sentence("3: FULL if the value would be another one", BoundariesOfTheTable::changeSameAtTheLimit);
    sentence("3: FULL if this place is not patched", BoundariesOfTheTable::changePatchedAtTheLimit);
    sentence("3: Otherwise what it was", BoundariesOfTheTable::whatItWas);
    sentence("3: A place counts as patched from the first change on", BoundariesOfTheTable::fromTheFirstChange);
    sentence("3: also if it gets its packed value again", BoundariesOfTheTable::packedValueAgain);
  }

  private static void promises4And5() {
    sentence("4: NONE if there is none", BoundariesOfTheTable::deleteNoRow);
    sentence("4: or it is deleted", BoundariesOfTheTable::deleteDeleted);
    sentence("4: Otherwise the number of rows not deleted", BoundariesOfTheTable::rowsNotDeleted);
    sentence("5: All deleted rows go", BoundariesOfTheTable::deletedRowsGo);
    sentence("5: the others keep their order and values and are numbered from 0 on", BoundariesOfTheTable::othersStay);
    sentence("5: all blocks are packed anew", BoundariesOfTheTable::packedAnew);
    sentence("5: Answers the number of rows", BoundariesOfTheTable::compactAnswers);
  }

  private static void promises6To8() {
    sentence("6: The number of rows, deleted ones too", BoundariesOfTheTable::numberOfRows);
    sentence("7: Column c of row r", BoundariesOfTheTable::valueThere);
    sentence("7: NONE if there is no row r", BoundariesOfTheTable::valueNoRow);
    sentence("7: or it is deleted", BoundariesOfTheTable::valueDeleted);
    sentence("8: The number of blocks", BoundariesOfTheTable::numberOfBlocks);
  }

  private static void promises11And22() {
    sentence("11: The number of patched places", BoundariesOfTheTable::patchedPlaces);
    sentence("22: patches counts the patched places of deleted rows too", BoundariesOfTheTable::deletedPatches);
    sentence("22: until compact", BoundariesOfTheTable::untilCompact);
    sentence("22: so does the limit of 20 of change", BoundariesOfTheTable::deletedPatchesAtTheLimit);
  }

  // ---- Terms ----

  private static void allCalls() {
    Table t = Table.counted(96);
    for (int i = 0; i < 414; i++) {
      due("change " + i, t.change(95, 0, i), i == 0 ? 95 : i - 1);
    }
    due("call 511", t.patches(), 1);
    due("call 512", t.value(95, 0), 413);
    Table s = new Table();
    for (int i = 0; i < 256; i++) {
      due("condition " + i, s.condition(0, 1, 2), 1);
      due("free " + i, s.free(), 1);
    }
    Table u = new Table();
    for (int i = 0; i < 170; i++) {
      due("append " + i, u.append(1, 2, 3), 0);
      due("delete " + i, u.delete(0), 0);
      due("compact " + i, u.compact(), 0);
    }
    due("call 511, a row", u.append(4, 5, 6), 0);
    due("call 512, its value", u.value(0, 2), 6);
  }

  private static void numbers() {
    Table t = new Table();
    for (int i = 0; i < 96; i++) {
      due("row " + i, t.append(1000 - i, i * i, -i), i);
    }
    for (int i = 0; i < 96; i++) {
      due("column 0 of row " + i, t.value(i, 0), 1000 - i);
      due("column 1 of row " + i, t.value(i, 1), i * i);
      due("column 2 of row " + i, t.value(i, 2), -i);
    }
    due("behind row 95", t.value(96, 0), NONE);
    due("before row 0", t.value(-1, 0), NONE);
    due("a 97th row", t.append(1, 1, 1), FULL);
  }

  private static void columns() {
    int[] edges = {MIN, MIN + 1, NONE, FULL, BAD, -1, 0, 1, MAX - 1, MAX};
    Table t = new Table();
    for (int i = 0; i < 10; i++) {
      t.append(edges[i], edges[9 - i], edges[(i + 3) % 10]);
    }
    for (int i = 0; i < 10; i++) {
      due("column 0, row " + i, t.value(i, 0), edges[i]);
      due("column 1, row " + i, t.value(i, 1), edges[9 - i]);
      due("column 2, row " + i, t.value(i, 2), edges[(i + 3) % 10]);
      due("column -1, row " + i, t.value(i, -1), BAD);
      due("column 3, row " + i, t.value(i, 3), BAD);
    }
  }

  private static void blocksBegin() {
    Table t = new Table();
    for (int n = 1; n <= 96; n++) {
      t.append(n, n, n);
      due("blocks of " + n, t.blocks(), n / 16);
      due("form of the last block of " + n, t.form(n / 16 - 1, 0), n < 16 ? NONE : 5);
      due("form behind it of " + n, t.form(n / 16, 0), NONE);
    }
  }

  private static void looseRows() {
    for (int n : new int[] {1, 15, 16, 17, 31, 32, 33, 47, 48, 79, 80, 81, 95, 96}) {
      Table t = Table.counted(n);
      int packed = n / 16 * 16;
      for (int r = packed; r < n; r++) {
        due("loose row " + r + " of " + n, t.change(r, 0, -1), r);
      }
      due("patches, loose rows of " + n, t.patches(), 0);
      if (packed > 0) {
        due("row before them of " + n, t.change(packed - 1, 0, -1), packed - 1);
        due("row 0 of " + n, t.change(0, 0, -1), 0);
        due("patches, rows in blocks of " + n, t.patches(), 2);
      }
    }
  }

  private static void packedByAppend() {
    Table t = Table.counted(15);
    t.condition(2, 8, 8);
    due("change of a loose row", t.change(14, 2, 8), 7);
    due("change back", t.change(14, 2, 7), 8);
    due("change once more", t.change(0, 2, 8), 7);
    due("loose", t.form(0, 2), NONE);
    due("loose, passed", t.passed(), 0);
    due("its last row", t.append(15, 85, 7), 15);
    due("packed with 8", t.passed(), 0);
    due("packed as a frame", t.form(0, 2), 4);
    due("digits", t.digits(2), 54);
    due("not patched", t.patches(), 0);
    due("a change from then on", t.change(0, 2, 7), 8);
    due("is a patch", t.patches(), 1);
    due("packed with 8 still", t.passed(), 0);
    due("a frame still", t.form(0, 2), 4);
    Table s = Table.counted(15);
    s.change(2, 2, 1000);
    s.delete(2);
    s.append(15, 85, 7);
    due("a deleted row is packed with its value, too", s.form(0, 2), 3);
    due("a deleted row is packed with its number, too", s.form(0, 0), 5);
  }

  private static void packedByCompact() {
    Table t = Table.counted(17);
    t.change(5, 2, 9);
    t.condition(2, 9, 9);
    due("before, passed", t.passed(), 1);
    due("before, form", t.form(0, 2), 1);
    due("compact", t.compact(), 17);
    due("after, passed", t.passed(), 0);
    due("after, form", t.form(0, 2), 4);
    due("after, digits", t.digits(2), 70 + 32);
    t.delete(5);
    due("row 16 comes into the block", t.compact(), 16);
    due("7 again in each of its rows", t.form(0, 2), 1);
    due("passed again", t.passed(), 1);
    t.free();
    t.condition(0, 16, 16);
    due("packed with row 16", t.passed(), 0);
    t.delete(0);
    due("to 15 rows", t.compact(), 15);
    due("which are loose", t.form(0, 2), NONE);
    due("change of one", t.change(0, 2, 1), 7);
    due("is no patch", t.patches(), 0);
    due("the 16th", t.append(1, 1, 1), 15);
    due("the block anew", t.form(0, 2), 3);
  }

  private static void keptBeside() {
    Table t = Table.counted(32);
    t.condition(2, 8, MAX);
    for (int r = 10; r < 20; r++) {
      due("change of row " + r, t.change(r, 2, MAX - r), 7);
      due("patches after row " + r, t.patches(), r - 9);
      due("form 0 after row " + r, t.form(0, 2), 1);
      due("form 1 after row " + r, t.form(1, 2), 1);
      due("digits after row " + r, t.digits(2), 64);
      due("passed after row " + r, t.passed(), 2);
      due("value of row " + r, t.value(r, 2), MAX - r);
      due("count after row " + r, t.count(), r - 9);
    }
  }

  private static void keepsItsPlace() {
    Table t = Table.counted(33);
    t.condition(0, 4, 4);
    t.delete(4);
    t.delete(32);
    due("the row behind", t.value(5, 0), 5);
    due("rows", t.rows(), 33);
    due("blocks", t.blocks(), 2);
    due("form", t.form(0, 0), 5);
    due("digits, with the loose row", t.digits(0), 172);
    due("its packed value is there", t.passed(), 1);
    due("the next number", t.append(33, 67, 7), 33);
    due("compact", t.compact(), 32);
    due("another one on its place", t.value(4, 0), 5);
    due("its packed value is gone", t.passed(), 2);
    due("the last one", t.value(31, 0), 33);
    due("none behind it", t.value(32, 0), NONE);
  }

  // ---- Promise 1 ----

  private static void newObject() {
    Table.full();
    due("append", new Table().append(1, 2, 3), 0);
    due("delete", new Table().delete(0), NONE);
    due("compact", new Table().compact(), 0);
    due("rows", new Table().rows(), 0);
    due("blocks", new Table().blocks(), 0);
    due("patches", new Table().patches(), 0);
    due("free", new Table().free(), 0);
    due("passed", new Table().passed(), 0);
    due("count", new Table().count(), 0);
    due("chosen", new Table().chosen(0), NONE);
    for (int c = 0; c < 3; c++) {
      due("change", new Table().change(0, c, 1), NONE);
      due("value", new Table().value(0, c), NONE);
      due("form", new Table().form(0, c), NONE);
      due("digits", new Table().digits(c), 0);
      due("condition", new Table().condition(c, 0, 0), 1);
      due("sum", new Table().sum(c), 0);
      due("least", new Table().least(c), NONE);
      due("ranked", new Table().ranked(c, 0), NONE);
      due("different", new Table().different(c), 0);
      due("commonest", new Table().commonest(c), NONE);
    }
    Table t = new Table();
    due("the first row is chosen", t.append(MIN, 0, MAX) + t.count(), 1);
  }

  // ---- Promise 2 ----

  private static void appends() {
    Table t = new Table();
    t.append(MIN, -1, MAX);
    t.append(NONE, 5, FULL);
    int[] due = {MIN, -1, MAX, NONE, 5, FULL};
    for (int i = 0; i < 6; i++) {
      due("value " + i, t.value(i / 3, i % 3), due[i]);
    }
    due("two rows", t.rows(), 2);
  }

  private static void fullAt96() {
    Table t = Table.counted(95);
    due("the 96th", t.append(1, 2, 3), 95);
    due("the 97th", t.append(4, 5, 6), FULL);
    due("the 97th again", t.append(4, 5, 6), FULL);
    due("rows", t.rows(), 96);
    t.delete(0);
    due("a deleted row is there", t.append(4, 5, 6), FULL);
    due("compact", t.compact(), 95);
    due("the 96th anew", t.append(4, 5, 6), 95);
    due("its value", t.value(95, 1), 5);
    due("the 97th anew", t.append(4, 5, 6), FULL);
    refused(FULL, () -> Table.counted(96), s -> s.append(Sequels.STRANGE, Sequels.STRANGE, Sequels.STRANGE));
    refused(FULL, Table::full, s -> s.append(MIN, MAX, Sequels.STRANGE));
  }

  private static void appendedNumber() {
    Table t = new Table();
    due("first", t.append(9, 9, 9), 0);
    due("second", t.append(9, 9, 9), 1);
    t.condition(0, 1, 0);
    due("no condition counts", t.append(9, 9, 9), 2);
    t.delete(2);
    due("behind a deleted one", t.append(9, 9, 9), 3);
    t.compact();
    due("after compact", t.append(9, 9, 9), 3);
  }

  // ---- Promise 3 ----

  private static void becomes() {
    Table t = Table.counted(17);
    int[] at = {0, 15, 16};
    for (int c = 0; c < 3; c++) {
      for (int r : at) {
        t.change(r, c, MIN + r + c);
        due("column " + c + " of row " + r, t.value(r, c), MIN + r + c);
      }
    }
    due("row 1", t.value(1, 0), 1);
    due("row 14", t.value(14, 1), 86);
    due("row 7", t.value(7, 2), 7);
  }

  private static void changeNoRow() {
    due("row 19 is the last of 20", Table.counted(20).change(19, 0, 1), 19);
    due("row 0 is the first of 20", Table.counted(20).change(0, 0, 1), 0);
    for (int r : NO_ROW_OF_20) {
      refused(NONE, () -> Table.counted(20), t -> t.change(r, 1, Sequels.STRANGE));
    }
    refused(NONE, Table::new, t -> t.change(0, 0, 0));
    refused(NONE, () -> Table.counted(96), t -> t.change(96, 2, Sequels.STRANGE));
  }

  private static void changeDeleted() {
    for (int r : new int[] {0, 15, 16, 19}) {
      refused(NONE, () -> without(r), t -> t.change(r, 0, Sequels.STRANGE));
      refused(NONE, () -> without(r), t -> t.change(r, 0, r));
    }
    due("the row before", without(15).change(14, 0, -1), 14);
    due("the row behind", without(15).change(16, 0, -1), 16);
  }

  /** counted(20) with row r deleted. */
  private static Table without(int r) {
    Table t = Table.counted(20);
    t.delete(r);
    return t;
  }

  private static void changeOrder() {
    refused(NONE, Table::full, t -> t.change(40, 0, Sequels.STRANGE));
    refused(NONE, Table::full, t -> t.change(3, 2, Sequels.STRANGE));
    refused(NONE, Table::full, t -> t.change(96, 0, Sequels.STRANGE));
    refused(NONE, Table::full, t -> t.change(-1, 0, Sequels.STRANGE));
    refused(FULL, Table::full, t -> t.change(41, 0, Sequels.STRANGE));
  }

  private static void changeFull() {
    due("the 19th", Table.patched(32, 18).change(20, 2, 1), 7);
    due("the 20th", Table.patched(32, 19).change(20, 2, 1), 7);
    due("the 21st", Table.patched(32, 20).change(20, 2, 1), FULL);
    Table t = Table.patched(32, 19);
    t.change(31, 0, 1);
    due("patches", t.patches(), 20);
    due("behind the 20th", t.change(31, 1, 1), FULL);
    for (int c = 0; c < 3; c++) {
      int column = c;
      refused(FULL, () -> Table.patched(32, 20), s -> s.change(20, column, Sequels.STRANGE));
      refused(FULL, () -> Table.patched(32, 20), s -> s.change(31, column, Sequels.STRANGE));
    }
    refused(FULL, () -> Table.patched(32, 20), s -> s.change(0, 0, Sequels.STRANGE));
    refused(FULL, () -> Table.patched(32, 20), s -> s.change(19, 1, Sequels.STRANGE));
  }

  private static void changeLooseAtTheLimit() {
    Table t = Table.patched(47, 20);
    due("the last row of a block", t.change(31, 0, 1), FULL);
    due("the first loose row", t.change(32, 0, 1), 32);
    due("the last loose row", t.change(46, 0, 1), 46);
    due("again", t.change(46, 0, 2), 1);
    due("patches", t.patches(), 20);
    due("the block's last row", t.append(1, 1, 1), 47);
    due("now in a block", t.change(46, 0, 3), FULL);
    due("and the row appended", t.change(47, 0, 3), FULL);
    due("not changed", t.value(46, 0), 2);
  }

  private static void changeSameAtTheLimit() {
    due("one below", Table.patched(32, 20).change(20, 2, 6), FULL);
    due("one above", Table.patched(32, 20).change(20, 2, 8), FULL);
    // It is no change, so it is as if the call had not been made.
    changesNothing(7, () -> Table.patched(32, 20), t -> t.change(20, 2, 7));
    changesNothing(7, () -> Table.patched(32, 19), t -> t.change(20, 2, 7));
    changesNothing(7, () -> Table.patched(32, 0), t -> t.change(20, 2, 7));
    changesNothing(60, () -> Table.patched(32, 20), t -> t.change(10, 2, 60));
  }

  private static void changePatchedAtTheLimit() {
    Table t = Table.patched(32, 20);
    due("the first patched place", t.change(0, 2, -1), 50);
    due("the last patched place", t.change(19, 2, -1), 69);
    due("the place behind it", t.change(20, 2, -1), FULL);
    due("the place beside it", t.change(19, 1, -1), FULL);
    due("the first once more", t.change(0, 2, MIN), -1);
    due("patches", t.patches(), 20);
  }

  private static void whatItWas() {
    Table t = Table.first(BAD, FULL, NONE, MIN, MAX, 0);
    int[] was = {BAD, FULL, NONE, MIN, MAX, 0};
    for (int i = 0; i < 6; i++) {
      due("row " + i, t.change(i, 0, i + 5), was[i]);
      due("row " + i + " again", t.change(i, 0, NONE), i + 5);
      due("row " + i + ", the same", t.change(i, 0, NONE), NONE);
    }
    Table s = Table.counted(16);
    due("in a block", s.change(3, 0, 8), 3);
    due("patched", s.change(3, 0, 9), 8);
    s.compact();
    due("packed anew", s.change(3, 0, 10), 9);
  }

  private static void fromTheFirstChange() {
    Table t = Table.counted(16);
    due("not yet", t.patches(), 0);
    due("its own value", t.change(15, 1, 85), 85);
    due("is no change", t.patches(), 0);
    due("the first", t.change(15, 1, 84), 85);
    due("counts", t.patches(), 1);
    due("the second", t.change(15, 1, 83), 84);
    due("counts with it", t.patches(), 1);
    due("another column", t.change(15, 0, 83), 15);
    due("counts apart", t.patches(), 2);
    due("the row before", t.change(14, 1, 0), 86);
    due("counts apart, too", t.patches(), 3);
  }

  private static void packedValueAgain() {
    Table t = Table.patched(32, 20);
    due("its packed value", t.change(5, 2, 7), 55);
    due("patched still", t.patches(), 20);
    due("another place", t.change(20, 2, 1), FULL);
    due("itself", t.change(5, 2, 1), 7);
    due("its packed value once more", t.change(5, 2, 7), 1);
    due("patched on", t.patches(), 20);
    due("after compact", t.compact() - t.patches(), 32);
    due("not patched", t.change(5, 2, 7) + t.patches(), 7);
  }

  // ---- Promises 4 and 5 ----

  private static void deleteNoRow() {
    due("row 19 is the last of 20", Table.counted(20).delete(19), 19);
    due("row 0 is the first of 20", Table.counted(20).delete(0), 19);
    for (int r : NO_ROW_OF_20) {
      refused(NONE, () -> Table.counted(20), t -> t.delete(r));
    }
    refused(NONE, Table::new, t -> t.delete(0));
    refused(NONE, Table::full, t -> t.delete(96));
    Table s = without(0);
    s.compact();
    due("a row that went", s.delete(19), NONE);
    due("the last one", s.delete(18), 18);
  }

  private static void deleteDeleted() {
    for (int r : new int[] {0, 15, 16, 19}) {
      refused(NONE, () -> without(r), t -> t.delete(r));
    }
    refused(NONE, Table::full, t -> t.delete(95));
    due("the row before", without(15).delete(14), 18);
    due("the row behind", without(15).delete(16), 18);
    Table s = without(3);
    s.compact();
    due("its number anew", s.delete(3), 18);
    s.append(1, 1, 1);
    due("a row appended later", s.delete(19), 18);
  }

  private static void rowsNotDeleted() {
    Table t = Table.counted(96);
    t.condition(0, 1, 0);
    for (int i = 0; i < 96; i++) {
      due("deletion " + i, t.delete(95 - i), 95 - i);
    }
    due("only one row", Table.counted(1).delete(0), 0);
    Table s = without(7);
    s.append(0, 0, 0);
    due("after append", s.delete(0), 19);
    s.compact();
    due("after compact", s.delete(0), 18);
  }

  private static void deletedRowsGo() {
    changesNothing(0, Table::new, Table::compact);
    changesNothing(20, () -> Table.counted(20), Table::compact);
    changesNothing(96, () -> Table.counted(96), Table::compact);
    Table t = Table.counted(96);
    for (int r = 0; r < 96; r += 2) {
      t.delete(r);
    }
    due("each second row", t.compact(), 48);
    due("the first left", t.value(0, 0), 1);
    due("the last left", t.value(47, 0), 95);
    due("none behind", t.value(48, 0), NONE);
    due("none is deleted now", t.count(), 48);
    for (int r = 0; r < 48; r++) {
      t.delete(r);
    }
    due("all rows", t.compact(), 0);
    due("no row", t.value(0, 0), NONE);
    due("the first anew", t.append(6, 6, 6), 0);
    due("is not deleted", t.value(0, 0), 6);
  }

  private static void othersStay() {
    for (int gone : new int[] {0, 1, 15, 16, 17, 31, 32, 39}) {
      Table t = Table.counted(40);
      t.change(20, 1, MIN);
      t.change(35, 1, MAX);
      t.delete(gone);
      t.compact();
      for (int r = 0; r < 39; r++) {
        int was = r < gone ? r : r + 1;
        due("without " + gone + ", column 0 of " + r, t.value(r, 0), was);
        due("without " + gone + ", column 1 of " + r, t.value(r, 1), was == 20 ? MIN : was == 35 ? MAX : 100 - was);
        due("without " + gone + ", column 2 of " + r, t.value(r, 2), 7);
      }
      due("without " + gone + ", behind", t.value(39, 0), NONE);
    }
  }

  private static void packedAnew() {
    Table t = Table.counted(96);
    for (int b = 0; b < 6; b++) {
      t.change(16 * b + 15, 2, 1000);
      due("form of block " + b, t.form(b, 2), 1);
    }
    due("compact", t.compact(), 96);
    for (int b = 0; b < 6; b++) {
      due("form of block " + b + " anew", t.form(b, 2), 2);
    }
    due("digits anew", t.digits(2), 6 * 74);
    due("patches", t.patches(), 0);
    for (int r = 0; r < 20; r++) {
      due("a patch anew " + r, t.change(r, 0, -5), r);
    }
    due("the 21st", t.change(20, 0, -5), FULL);
    t.delete(0);
    due("a block less", t.compact(), 95);
    due("the last block", t.form(4, 2), 3);
    due("the loose rows", t.form(5, 2), NONE);
    due("the first block", t.form(0, 2), 3);
  }

  private static void compactAnswers() {
    for (int n : new int[] {0, 1, 15, 16, 17, 95, 96}) {
      Table t = Table.counted(n);
      t.condition(0, 1, 0);
      due("none deleted of " + n, t.compact(), n);
      due("again", t.compact(), n);
      if (n > 0) {
        t.delete(n - 1);
        due("one deleted of " + n, t.compact(), n - 1);
        due("rows", t.rows(), n - 1);
      }
    }
  }

  // ---- Promises 6 to 8 ----

  private static void numberOfRows() {
    Table t = new Table();
    for (int n = 0; n < 96; n++) {
      due("rows", t.rows(), n);
      t.append(n, n, n);
      t.delete(n / 2);
    }
    due("96", t.rows(), 96);
    t.append(1, 1, 1);
    due("no more", t.rows(), 96);
    t.compact();
    due("the deleted ones went", t.rows(), 48);
  }

  private static void valueThere() {
    Table t = Table.counted(20);
    for (int r : new int[] {0, 15, 16, 19}) {
      due("column 0 of row " + r, t.value(r, 0), r);
      due("column 1 of row " + r, t.value(r, 1), 100 - r);
      due("column 2 of row " + r, t.value(r, 2), 7);
    }
    t.condition(0, 1, 0);
    due("no condition counts", t.value(0, 1), 100);
  }

  private static void valueNoRow() {
    for (int r : NO_ROW_OF_20) {
      refused(NONE, () -> Table.counted(20), t -> t.value(r, 0));
    }
    refused(NONE, Table::new, t -> t.value(0, 2));
    refused(NONE, Table::full, t -> t.value(96, 2));
  }

  private static void valueDeleted() {
    for (int r : new int[] {0, 15, 16, 19}) {
      refused(NONE, () -> without(r), t -> t.value(r, 2));
    }
    due("the row before", without(15).value(14, 0), 14);
    due("the row behind", without(15).value(16, 0), 16);
  }

  private static void numberOfBlocks() {
    int[] rows = {0, 1, 15, 16, 17, 31, 32, 33, 47, 48, 63, 64, 79, 80, 95, 96};
    int[] blocks = {0, 0, 0, 1, 1, 1, 2, 2, 2, 3, 3, 4, 4, 5, 5, 6};
    for (int i = 0; i < rows.length; i++) {
      Table t = Table.counted(rows[i]);
      due("blocks of " + rows[i], t.blocks(), blocks[i]);
      t.delete(0);
      due("blocks of " + rows[i] + " with a deleted row", t.blocks(), blocks[i]);
    }
    Table t = Table.counted(32);
    t.delete(31);
    t.compact();
    due("31 after compact", t.blocks(), 1);
    t.append(1, 1, 1);
    due("32 again", t.blocks(), 2);
  }

  // ---- Promises 11 and 22 ----

  private static void patchedPlaces() {
    Table t = Table.counted(32);
    for (int i = 0; i < 20; i++) {
      due("before change " + i, t.patches(), i);
      t.change(31 - i, i % 3, MIN + i);
    }
    due("20", t.patches(), 20);
    t.change(0, 0, 5);
    due("no more than 20", t.patches(), 20);
    due("no row, no patch", new Table().patches(), 0);
    t.append(1, 1, 1);
    t.change(32, 0, 2);
    due("no loose place", t.patches(), 20);
  }

  private static void deletedPatches() {
    Table t = Table.patched(32, 20);
    for (int r = 0; r < 32; r++) {
      t.delete(r);
      due("row " + r + " deleted", t.patches(), 20);
    }
    Table s = Table.counted(16);
    s.change(0, 0, 9);
    s.change(0, 1, 9);
    s.change(0, 2, 9);
    s.delete(0);
    due("all three of a row", s.patches(), 3);
  }

  private static void untilCompact() {
    Table t = Table.patched(32, 20);
    for (int r = 0; r < 5; r++) {
      t.delete(r);
    }
    due("until", t.patches(), 20);
    due("compact", t.compact(), 27);
    due("none from then on", t.patches(), 0);
    due("the place that was patched", t.change(0, 2, 1), 55);
    due("is patched anew", t.patches(), 1);
    Table s = Table.patched(32, 20);
    s.delete(31);
    due("compact to loose rows", s.compact(), 31);
    due("a loose row that was patched", s.change(19, 2, 1), 69);
    due("is not", s.patches(), 0);
    due("its block's last row", s.append(1, 1, 1), 31);
    due("the same place", s.change(19, 2, 2), 1);
    due("is patched now", s.patches(), 1);
    for (int place = 0; place < 288; place++) {
      due("patches of place " + place + " in two rounds", twoRounds(place % 96, place / 96), 1);
    }
  }

  /** The patches of a table with one place that is patched, packed anew, and patched once more. */
  private static int twoRounds(int r, int c) {
    Table t = Table.counted(96);
    t.change(r, c, MIN);
    t.compact();
    t.change(r, c, MAX);
    return t.patches();
  }

  private static void deletedPatchesAtTheLimit() {
    Table t = Table.patched(48, 20);
    for (int r = 0; r < 20; r++) {
      t.delete(r);
      due("row " + r + " deleted", t.change(40, 0, 1), FULL);
    }
    due("not changed", t.value(40, 0), 40);
    due("compact", t.compact(), 28);
    for (int r = 0; r < 16; r++) {
      due("room anew", t.change(r, 0, 1), 20 + r);
    }
    due("patches anew", t.patches(), 16);
    Table s = Table.patched(32, 19);
    s.delete(0);
    due("the 20th, with one deleted", s.change(25, 0, 1), 25);
    due("the 21st, with one deleted", s.change(25, 1, 1), FULL);
  }
}
