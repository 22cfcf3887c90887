// For each promise of the document: ordinary inputs, the edges that it names, and wrong inputs.
public final class PackedColumnsPromises {
  private static final int BAD = PackedColumns.BAD_ARG;
  private static final int FULL = PackedColumns.FULL;
  private static final int NONE = PackedColumns.NONE;
  private static final int MIN = Integer.MIN_VALUE;
  private static final int MAX = Integer.MAX_VALUE;
  private static final int[] BAD_COLUMNS = {-1, 3, MIN, MAX};

  private static int wrong = 0;
  private static int looked = 0;

  private static void due(String what, int got, int want) {
    looked++;
    if (got != want) {
      wrong++;
      System.out.println(what + " answered " + got + ", due is " + want);
    }
  }

  public static void main(String[] args) {
    constants();
    promise1();
    promise2();
    promise3();
    promise3Limit();
    promise4();
    promise5();
    promise5Packing();
    promise6();
    promise7();
    promise8();
    promise9();
    promise9Ties();
    promise9Bounds();
    promise9Wrapping();
    promise9Patched();
    promise10();
    promise11();
    promise12();
    promise13();
    promise14();
    promise14Packed();
    promise15();
    promise16();
    promise17();
    promise18();
    promise19();
    promise20();
    promise21();
    promise22();
    badColumns();
    fullTable();
    System.out.println(looked + " answers looked at, " + wrong + " not as due");
    if (wrong != 0) {
      System.exit(1);
    }
  }

  // ---- Tables that the tests start from ----

  /** Row i is (i, 100 - i, 7). */
  private static PackedColumns counted(int rows) {
    PackedColumns t = new PackedColumns();
    for (int i = 0; i < rows; i++) {
      due("counted append " + i, t.append(i, 100 - i, 7), i);
    }
    return t;
  }

  /** The values stand in column 0; the other columns are 0. */
  private static PackedColumns first(int... values) {
    PackedColumns t = new PackedColumns();
    for (int v : values) {
      t.append(v, 0, 0);
    }
    return t;
  }

  /** counted(32) with its 20 patches all in column 2 of the rows 0 to 19. */
  private static PackedColumns patchedUp() {
    PackedColumns t = counted(32);
    for (int i = 0; i < 20; i++) {
      due("patchedUp change " + i, t.change(i, 2, 50 + i), 7);
    }
    return t;
  }

  /** Only the row (4, 0, 0) is left; others went with compact. */
  private static PackedColumns shrunk() {
    PackedColumns t = first(3, 4, 2, 2, 2);
    t.delete(0);
    t.delete(2);
    t.delete(3);
    t.delete(4);
    t.compact();
    return t;
  }

  private static void formDue(String what, int form, int digits, int... values) {
    due(what + ": values", values.length, 16);
    PackedColumns t = new PackedColumns();
    for (int v : values) {
      t.append(3, v, 3);
    }
    due(what + ": form", t.form(0, 1), form);
    due(what + ": digits", t.digits(1), digits);
    due(what + ": form beside", t.form(0, 0), 1);
    due(what + ": form behind", t.form(0, 2), 1);
    due(what + ": digits beside", t.digits(0), 32);
  }

  // ---- The promises ----

  private static void constants() {
    due("BAD_ARG", PackedColumns.BAD_ARG, -1000000001);
    due("FULL", PackedColumns.FULL, -1000000002);
    due("NONE", PackedColumns.NONE, -1000000003);
  }

  private static void promise1() {
    PackedColumns t = new PackedColumns();
    due("1: rows", t.rows(), 0);
    due("1: blocks", t.blocks(), 0);
    due("1: patches", t.patches(), 0);
    due("1: count", t.count(), 0);
    due("1: passed", t.passed(), 0);
    due("1: digits", t.digits(2), 0);
    due("1: free", t.free(), 0);
    PackedColumns other = counted(20);
    other.condition(0, 5, 6);
    other.change(0, 0, 9);
    due("1: rows, beside another object", t.rows(), 0);
    due("1: patches, beside another object", t.patches(), 0);
    due("1: free, beside another object", t.free(), 0);
  }

  private static void promise2() {
    PackedColumns t = new PackedColumns();
    due("2: first", t.append(MIN, MAX, NONE), 0);
    due("2: column 0", t.value(0, 0), MIN);
    due("2: column 1", t.value(0, 1), MAX);
    due("2: column 2", t.value(0, 2), NONE);
    for (int i = 1; i < 96; i++) {
      due("2: row " + i, t.append(i, -i, i * 1000), i);
    }
    due("2: a 97th row", t.append(1, 2, 3), FULL);
    due("2: rows after the refusal", t.rows(), 96);
    due("2: last value after the refusal", t.value(95, 2), 95000);
    due("2: sum after the refusal", t.sum(1), MAX - 95 * 48);
    due("2: delete", t.delete(3), 95);
    due("2: deleted rows still count", t.append(1, 2, 3), FULL);
    due("2: compact", t.compact(), 95);
    due("2: room again", t.append(8, 9, 10), 95);
    due("2: the new row", t.value(95, 1), 9);
    due("2: not deleted", t.count(), 96);
    due("2: full again", t.append(8, 9, 10), FULL);
  }

  private static void promise3() {
    PackedColumns t = counted(18);
    due("3: loose", t.change(17, 0, -4), 17);
    due("3: loose again", t.change(17, 0, 17), -4);
    due("3: loose is no patch", t.patches(), 0);
    due("3: in a block", t.change(4, 1, MIN), 96);
    due("3: value after it", t.value(4, 1), MIN);
    due("3: value beside it", t.value(4, 0), 4);
    due("3: value behind it", t.value(5, 1), 95);
    due("3: a patch", t.patches(), 1);
    due("3: the same value", t.change(5, 1, 95), 95);
    due("3: the same value is no patch", t.patches(), 1);
    due("3: last row of the block", t.change(15, 0, 0), 15);
    due("3: first row behind it", t.change(16, 0, 0), 16);
    due("3: patches", t.patches(), 2);
    due("3: packed value again", t.change(4, 1, 96), MIN);
    due("3: still patched", t.patches(), 2);
    due("3: row -1", t.change(-1, 0, 1), NONE);
    due("3: row 18", t.change(18, 0, 1), NONE);
    due("3: row MIN", t.change(MIN, 2, 1), NONE);
    due("3: row MAX", t.change(MAX, 2, 1), NONE);
    t.delete(6);
    due("3: deleted row", t.change(6, 0, 1), NONE);
    due("3: deleted row, same value", t.change(6, 0, 6), NONE);
    t.delete(17);
    due("3: deleted loose row", t.change(17, 0, 1), NONE);
    due("3: no row, bad column", t.change(99, 3, 1), BAD);
    due("3: deleted row, bad column", t.change(6, -1, 1), BAD);
    due("3: patches at the end", t.patches(), 2);
  }

  private static void promise3Limit() {
    PackedColumns t = patchedUp();
    due("3: 20 patches", t.patches(), 20);
    due("3: a 21st", t.change(20, 2, 1), FULL);
    due("3: value after the refusal", t.value(20, 2), 7);
    due("3: another column of a patched row", t.change(0, 0, 1), FULL);
    due("3: patches after refusals", t.patches(), 20);
    due("3: same value at the limit", t.change(20, 2, 7), 7);
    due("3: patched place at the limit", t.change(19, 2, 1), 69);
    due("3: its packed value again", t.change(19, 2, 7), 1);
    due("3: another one once more", t.change(19, 2, 8), 7);
    due("3: patches stay", t.patches(), 20);
    due("3: no row at the limit", t.change(32, 2, 1), NONE);
    due("3: bad column at the limit", t.change(20, 3, 1), BAD);
    t.delete(21);
    due("3: deleted at the limit", t.change(21, 2, 1), NONE);
    for (int i = 32; i < 47; i++) {
      t.append(0, 0, 0);
      due("3: loose at the limit " + i, t.change(i, 1, 5), 0);
    }
    due("3: loose places are no patches", t.patches(), 20);
    t.append(0, 5, 0);
    due("3: changed loose values are packed", t.form(2, 1), 1);
    due("3: now in a block", t.change(40, 1, 6), FULL);
    due("3: refused there", t.value(40, 1), 5);
  }

  private static void promise4() {
    PackedColumns t = counted(17);
    due("4: first", t.delete(0), 16);
    due("4: last, loose", t.delete(16), 15);
    due("4: again", t.delete(0), NONE);
    due("4: again, loose", t.delete(16), NONE);
    due("4: row 17", t.delete(17), NONE);
    due("4: row -1", t.delete(-1), NONE);
    due("4: row MIN", t.delete(MIN), NONE);
    due("4: row MAX", t.delete(MAX), NONE);
    due("4: rows", t.rows(), 17);
    due("4: the others keep their numbers", t.value(1, 0), 1);
    due("4: count", t.count(), 15);
    due("4: it keeps its place", t.append(17, 0, 0), 17);
    due("4: after append", t.delete(17), 15);
    for (int i = 1; i < 16; i++) {
      due("4: down to none", t.delete(i), 15 - i);
    }
    due("4: blocks", t.blocks(), 1);
    due("4: none left", t.count(), 0);
  }

  private static void promise5() {
    due("5: empty", new PackedColumns().compact(), 0);
    PackedColumns t = counted(20);
    t.change(3, 0, 333);
    t.delete(0);
    t.delete(2);
    t.delete(18);
    t.condition(0, 19, 1000);
    due("5: compact", t.compact(), 17);
    due("5: rows", t.rows(), 17);
    due("5: row 0", t.value(0, 0), 1);
    due("5: row 1", t.value(1, 0), 333);
    due("5: row 1, column 1", t.value(1, 1), 97);
    due("5: row 15", t.value(15, 0), 17);
    due("5: row 16", t.value(16, 0), 19);
    due("5: row 17", t.value(17, 0), NONE);
    due("5: patches", t.patches(), 0);
    due("5: conditions stay", t.count(), 2);
    due("5: chosen", t.chosen(1), 16);
    due("5: free", t.free(), 1);
    due("5: none is deleted", t.count(), 17);
    due("5: again", t.compact(), 17);
    due("5: append", t.append(5, 5, 5), 17);
    for (int i = 0; i < 18; i++) {
      t.delete(i);
    }
    due("5: all deleted", t.compact(), 0);
    due("5: blocks", t.blocks(), 0);
    due("5: digits", t.digits(0), 0);
    due("5: from 0 on", t.append(6, 6, 6), 0);
    due("5: not deleted", t.value(0, 2), 6);
  }

  private static void promise5Packing() {
    PackedColumns t = counted(33);
    t.condition(2, 8, 8);
    t.change(5, 2, 8);
    due("5: packed with 7", t.passed(), 2);
    due("5: single", t.form(0, 2), 1);
    t.compact();
    due("5: packed anew", t.form(0, 2), 4);
    due("5: digits", t.digits(2), 54 + 32 + 32);
    due("5: passed", t.passed(), 1);
    due("5: not patched", t.patches(), 0);
    due("5: patched from the first change on", t.change(5, 2, 9), 8);
    due("5: patches", t.patches(), 1);
    t.change(0, 0, 70);
    t.change(31, 2, 70);
    t.compact();
    t.change(0, 0, 71);
    t.change(31, 2, 71);
    due("5: the first and the last place anew", t.patches(), 2);
    PackedColumns s = patchedUp();
    s.delete(31);
    due("5: to loose rows", s.compact(), 31);
    due("5: blocks", s.blocks(), 1);
    for (int i = 16; i < 31; i++) {
      s.change(i, 0, 1);
    }
    due("5: loose now", s.patches(), 0);
    for (int i = 0; i < 16; i++) {
      s.change(i, 0, 90);
    }
    due("5: patches anew", s.patches(), 16);
  }

  private static void promise6() {
    PackedColumns t = counted(5);
    due("6: rows", t.rows(), 5);
    t.delete(4);
    due("6: deleted too", t.rows(), 5);
    t.condition(0, 9, 9);
    due("6: conditions don't count", t.rows(), 5);
    t.compact();
    due("6: after compact", t.rows(), 4);
  }

  private static void promise7() {
    PackedColumns t = counted(17);
    due("7: in a block", t.value(15, 1), 85);
    due("7: loose", t.value(16, 1), 84);
    due("7: row 17", t.value(17, 1), NONE);
    due("7: row -1", t.value(-1, 0), NONE);
    due("7: row MIN", t.value(MIN, 0), NONE);
    due("7: row MAX", t.value(MAX, 0), NONE);
    t.change(15, 1, 4);
    due("7: patched", t.value(15, 1), 4);
    t.condition(0, 99, 99);
    due("7: conditions don't count", t.value(15, 1), 4);
    t.delete(15);
    due("7: deleted", t.value(15, 1), NONE);
    due("7: deleted, bad column", t.value(15, 3), BAD);
    due("7: no row, bad column", t.value(-1, -1), BAD);
  }

  private static void promise8() {
    PackedColumns t = counted(15);
    due("8: 15 rows", t.blocks(), 0);
    t.append(0, 0, 0);
    due("8: 16 rows", t.blocks(), 1);
    t.delete(0);
    due("8: deleted ones keep their place", t.blocks(), 1);
    t.append(0, 0, 0);
    due("8: 17 rows", t.blocks(), 1);
    t.compact();
    due("8: 16 rows after compact", t.blocks(), 1);
    due("8: 32 rows", counted(32).blocks(), 2);
    due("8: 96 rows", counted(96).blocks(), 6);
  }

  private static void promise9() {
    formDue("9 plain", 0, 512, MIN, 5, MAX, -7, 1 << 30, -9, 77, MAX - 8, MIN + 1, 12, -1 << 29, 6, MAX - 1, 0, 1, MIN + 9);
    formDue("9 single", 1, 32, MIN, MIN, MIN, MIN, MIN, MIN, MIN, MIN, MIN, MIN, MIN, MIN, MIN, MIN, MIN, MIN);
    formDue("9 two runs", 2, 74, 5, 5, 5, 5, 5, 5, 5, 900, 900, 900, 900, 900, 900, 900, 900, 900);
    formDue("9 four runs", 2, 148, 0, 0, 0, 0, MAX, MAX, MAX, MAX, MIN, MIN, MIN, MIN, 5, 5, 5, 5);
    formDue("9 list of two", 3, 80, 0, MAX, 0, MAX, 0, MAX, 0, MAX, 0, MAX, 0, MAX, 0, MAX, 0, MAX);
    formDue("9 list of three", 3, 128, 0, MAX, 7, MAX, 0, MAX, 7, MAX, 0, MAX, 0, MAX, 0, MAX, 0, MAX);
    formDue("9 list of four", 3, 160, 0, MAX, 7, MIN, 0, MAX, 7, MAX, 0, MAX, 0, MAX, 0, MAX, 0, MAX);
    formDue("9 list of five", 3, 208, 0, MAX, 7, MIN, 0, MAX, 9, MAX, 0, MAX, 0, MAX, 0, MAX, 0, MAX);
    formDue("9 frame", 4, 54, 8, 9, 8, 9, 8, 9, 8, 9, 8, 9, 8, 9, 8, 9, 8, 9);
    formDue("9 frame below 8", 4, 86, 0, 7, 3, 5, 1, 6, 4, 2, 7, 0, 5, 3, 6, 1, 2, 4);
    formDue("9 frame of 8", 4, 102, 0, 8, 3, 5, 1, 6, 4, 2, 7, 0, 5, 3, 6, 1, 2, 4);
    formDue("9 even steps", 5, 70, 9, 19, 29, 39, 49, 59, 69, 79, 89, 99, 109, 119, 129, 139, 149, 159);
    formDue("9 falling steps", 5, 85, 0, -9, -18, -27, -36, -45, -54, -63, -72, -81, -90, -99, -108, -117, -126, -136);
    PackedColumns t = counted(31);
    due("9: column 0", t.form(0, 0), 5);
    due("9: column 1", t.form(0, 1), 5);
    due("9: column 2", t.form(0, 2), 1);
    due("9: loose rows are no block", t.form(1, 0), NONE);
    due("9: block -1", t.form(-1, 0), NONE);
    due("9: block MIN", t.form(MIN, 0), NONE);
    due("9: block MAX", t.form(MAX, 0), NONE);
    due("9: no block, bad column", t.form(1, 3), BAD);
    t.append(500, 500, 7);
    due("9: the second block", t.form(1, 0), 4);
    t.change(1, 2, 50);
    t.delete(2);
    due("9: patches don't change it", t.form(0, 2), 1);
    due("9: deletions don't change it", t.form(0, 0), 5);
  }

  private static void promise9Ties() {
    // 32 as a list of one too
    formDue("9 single or list", 1, 32, 6, 6, 6, 6, 6, 6, 6, 6, 6, 6, 6, 6, 6, 6, 6, 6);
    // 10 stretches; the steps go from 0 to 600000, below 2 to the power 20
    formDue("9 runs or steps", 2, 370, 0, 0, 600000, 600000, 1200000, 1200000, 1300000, 1300000,
        1400000, 1400000, 1500000, 1500000, 1600000, 1700000, 1800000, 1900000);
    // 82000 is below 2 to the power 17; the steps go from 3000 to 40000
    formDue("9 frame or steps", 4, 310, 0, 40000, 43000, 46000, 49000, 52000, 55000, 58000,
        61000, 64000, 67000, 70000, 73000, 76000, 79000, 82000);
  }

  private static void promise9Bounds() {
    int a = 1 << 27;
    formDue("9 list of eight", 3, 304, 0, MAX, MIN, 7, -a, a, 99, -5, 0, MAX, MIN, 7, -a, a, 99, -5);
    formDue("9 nine values", 0, 512, 0, MAX, MIN, 7, -a, a, 99, -5, 0, MAX, MIN, 7, -a, a, 99, 5);
    int f = 1 << 29;
    formDue("9 frame of 29 digits", 4, 502, 0, f - 1, 1, f - 2, 2, f - 3, 3, f - 4, 4, f - 5, 5, f - 6, 6, f - 7, 7, f - 8);
    formDue("9 frame of 30 digits", 0, 512, 0, f, 1, f - 2, 2, f - 3, 3, f - 4, 4, f - 5, 5, f - 6, 6, f - 7, 7, f - 8);
    // steps between 1 and s, up and up
    int s = 1 << 29;
    formDue("9 steps of 29 digits", 5, 505, MIN, MIN + 1, MIN + 1 + s, MIN + 2 + s, MIN + 2 + 2 * s, MIN + 3 + 2 * s,
        MIN + 3 + 3 * s, MIN + 4 + 3 * s, MIN + 4 + 4 * s, MIN + 5 + 4 * s, MIN + 5 + 5 * s, MIN + 6 + 5 * s,
        MIN + 6 + 6 * s, MIN + 7 + 6 * s, MIN + 7 + 7 * s, MIN + 8 + 7 * s);
    formDue("9 steps of 30 digits", 0, 512, MIN, MIN + 1, MIN + 2 + s, MIN + 3 + s, MIN + 3 + 2 * s, MIN + 4 + 2 * s,
        MIN + 4 + 3 * s, MIN + 5 + 3 * s, MIN + 5 + 4 * s, MIN + 6 + 4 * s, MIN + 6 + 5 * s, MIN + 7 + 5 * s,
        MIN + 7 + 6 * s, MIN + 8 + 6 * s, MIN + 8 + 7 * s, MIN + 9 + 7 * s);
  }

  private static void promise9Wrapping() {
    // greatest less least would wrap to -1, and every step would wrap to -1
    formDue("9 no wrapped step", 0, 512, MIN, MAX, MAX - 1, MAX - 2, MAX - 3, MAX - 4, MAX - 5, MAX - 6,
        MAX - 7, MAX - 8, MAX - 9, MAX - 10, MAX - 11, MAX - 12, MAX - 13, MAX - 14);
    formDue("9 no wrapped frame", 3, 128, MIN, MAX, MIN + 1, MAX, MIN, MAX, MIN, MAX, MIN, MAX, MIN, MAX, MIN, MAX, MIN, MAX);
    // the steps are ints, their greatest less their least is not
    formDue("9 no wrapped span of steps", 0, 512, MIN + 1, 0, MAX, 1, MIN + 2, 2, MAX - 2, 3, MIN + 4, 4, MAX - 4, 5, MIN + 6, 6, MAX - 6, 7);
  }

  /** Patches place after place: form and digits stay those of the packed values until compact. */
  private static void patchedFormDue(String what, int form, int digits, int... values) {
    PackedColumns t = first(values);
    for (int i = 0; i < 16; i++) {
      t.change(i, 0, i % 3 == 0 ? MAX - 7 * i : MIN + 1000 * i);
      due(what + ": form after " + i, t.form(0, 0), form);
      due(what + ": digits after " + i, t.digits(0), digits);
    }
    due(what + ": patches", t.patches(), 16);
    t.compact();
    due(what + ": packed anew", t.form(0, 0), 0);
    due(what + ": digits anew", t.digits(0), 512);
  }

  private static void promise9Patched() {
    patchedFormDue("9 patched runs", 2, 74, 5, 5, 5, 5, 5, 5, 5, 900, 900, 900, 900, 900, 900, 900, 900, 900);
    patchedFormDue("9 patched list", 3, 80, 0, MAX, 0, MAX, 0, MAX, 0, MAX, 0, MAX, 0, MAX, 0, MAX, 0, MAX);
    patchedFormDue("9 patched frame", 4, 54, 8, 9, 8, 9, 8, 9, 8, 9, 8, 9, 8, 9, 8, 9, 8, 9);
    patchedFormDue("9 patched steps", 5, 70, 9, 19, 29, 39, 49, 59, 69, 79, 89, 99, 109, 119, 129, 139, 149, 159);
  }

  private static void promise10() {
    PackedColumns t = counted(15);
    due("10: 15 loose rows", t.digits(2), 480);
    t.append(15, 85, 7);
    due("10: a block", t.digits(2), 32);
    due("10: steps", t.digits(0), 70);
    t.append(99, 99, 99);
    t.append(99, 99, 99);
    due("10: and loose rows", t.digits(2), 96);
    t.delete(17);
    due("10: deleted loose rows too", t.digits(2), 96);
    t.change(0, 2, 1000);
    t.delete(1);
    due("10: patches take none", t.digits(2), 96);
    for (int i = 18; i < 32; i++) {
      t.append(i, 99, 99);
    }
    due("10: two blocks", t.digits(2), 64);
    due("10: bad column", t.digits(3), BAD);
  }

  private static void promise11() {
    PackedColumns t = counted(17);
    t.change(0, 0, 1);
    t.change(0, 1, 1);
    t.change(0, 2, 1);
    t.change(0, 2, 2);
    t.change(16, 0, 1);
    due("11: each place once", t.patches(), 3);
    t.change(1, 2, 7);
    due("11: the same value is no change", t.patches(), 3);
    t.change(0, 0, 0);
    due("11: the packed value again", t.patches(), 3);
    t.compact();
    due("11: after compact", t.patches(), 0);
  }

  private static void promise12() {
    PackedColumns t = counted(20);
    due("12: first", t.condition(0, 3, 9), 1);
    due("12: bounds count in", t.count(), 7);
    due("12: second", t.condition(1, 93, 96), 2);
    due("12: both hold", t.count(), 4);
    due("12: bad column", t.condition(3, 0, 0), BAD);
    due("12: third", t.condition(2, 7, 7), 3);
    due("12: count", t.count(), 4);
    due("12: fourth", t.condition(0, MIN, MAX), 4);
    due("12: a fifth", t.condition(0, 1, 0), FULL);
    due("12: a fifth with a bad column", t.condition(-1, 1, 0), BAD);
    due("12: refusals change nothing", t.count(), 4);
    due("12: free", t.free(), 4);
    due("12: first above second", t.condition(0, 10, 9), 1);
    due("12: met by none", t.count(), 0);
    t.free();
    due("12: the same bounds", t.condition(0, 10, 10), 1);
    due("12: met by one", t.count(), 1);
    t.free();
    due("12: MAX to MIN", t.condition(0, MAX, MIN), 1);
    due("12: met by none", t.count(), 0);
  }

  private static void promise13() {
    PackedColumns t = counted(20);
    due("13: none", t.free(), 0);
    t.condition(0, 50, 60);
    t.condition(1, 50, 60);
    due("13: none chosen", t.count(), 0);
    due("13: passed", t.passed(), 1);
    due("13: two", t.free(), 2);
    due("13: all chosen", t.count(), 20);
    due("13: none passed", t.passed(), 0);
    due("13: again", t.free(), 0);
    for (int i = 1; i < 5; i++) {
      due("13: room for four", t.condition(2, 7, 7), i);
    }
  }

  private static void promise14() {
    PackedColumns t = counted(50);
    due("14: no condition", t.passed(), 0);
    t.condition(0, 15, 15);
    due("14: the bound in block 0", t.passed(), 2);
    t.free();
    t.condition(0, 16, 31);
    due("14: block 1", t.passed(), 2);
    t.free();
    t.condition(0, 15, 32);
    due("14: all", t.passed(), 0);
    t.condition(1, 85, 85);
    due("14: some condition is enough", t.passed(), 2);
    t.free();
    t.condition(0, 48, 49);
    due("14: loose rows don't count", t.passed(), 3);
    due("14: but are chosen", t.count(), 2);
    t.free();
    t.condition(0, 9, 8);
    due("14: met by none", t.passed(), 3);
    t.free();
    t.condition(0, 0, 1);
    t.condition(1, 85, 86);
    due("14: each is met in block 0, though no row meets both", t.passed(), 2);
    due("14: no row", t.count(), 0);
  }

  private static void promise14Packed() {
    PackedColumns t = counted(16);
    t.condition(0, 500, 500);
    t.change(0, 0, 500);
    due("14: a patch is not packed", t.passed(), 1);
    due("14: but chosen", t.count(), 1);
    t.compact();
    due("14: packed anew", t.passed(), 0);
    t.change(0, 0, 0);
    due("14: the packed value counts on", t.passed(), 0);
    due("14: but is not chosen", t.count(), 0);
    t.change(0, 0, 500);
    t.delete(0);
    due("14: deleted rows were packed too", t.passed(), 0);
    due("14: but are not chosen", t.count(), 0);
    PackedColumns s = counted(15);
    s.delete(4);
    s.condition(0, 4, 4);
    s.append(15, 0, 7);
    due("14: deleted before its block was there", s.passed(), 0);
    due("14: form with it", s.form(0, 0), 5);
    PackedColumns gap = first(0, 100, 0, 100, 0, 100, 0, 100, 0, 100, 0, 100, 0, 100, 0, 100);
    gap.condition(0, 1, 99);
    due("14: the values, not least and greatest", gap.passed(), 1);
  }

  private static void promise15() {
    PackedColumns t = counted(20);
    due("15: all", t.count(), 20);
    t.delete(3);
    t.delete(18);
    due("15: not the deleted", t.count(), 18);
    t.condition(0, 2, 4);
    due("15: within", t.count(), 2);
    t.change(2, 0, 5);
    t.change(19, 0, 3);
    t.change(17, 0, 4);
    due("15: with the values of now", t.count(), 3);
    t.append(4, 0, 0);
    due("15: a new row", t.count(), 4);
    t.condition(1, 1, MAX);
    due("15: and a second condition", t.count(), 3);
    PackedColumns ends = first(MIN, MAX, 0);
    ends.condition(0, MIN, MAX);
    due("15: MIN to MAX", ends.count(), 3);
    ends.condition(0, MIN, MIN);
    due("15: MIN", ends.count(), 1);
  }

  private static void promise16() {
    PackedColumns t = counted(20);
    due("16: first", t.chosen(0), 0);
    due("16: last", t.chosen(19), 19);
    due("16: behind it", t.chosen(20), NONE);
    due("16: -1", t.chosen(-1), NONE);
    due("16: MIN", t.chosen(MIN), NONE);
    due("16: MAX", t.chosen(MAX), NONE);
    t.delete(0);
    due("16: after a deletion", t.chosen(0), 1);
    t.condition(0, 15, 17);
    due("16: within, first", t.chosen(0), 15);
    due("16: within, last", t.chosen(2), 17);
    due("16: within, behind it", t.chosen(3), NONE);
  }

  private static void promise17() {
    PackedColumns t = counted(20);
    due("17: all", t.sum(0), 190);
    due("17: column 1", t.sum(1), 1810);
    due("17: column 2", t.sum(2), 140);
    t.delete(19);
    due("17: not the deleted", t.sum(0), 171);
    t.condition(1, 98, 100);
    due("17: within", t.sum(0), 3);
    t.condition(1, 1, 0);
    due("17: none", t.sum(0), 0);
    due("17: wrapping up", first(MAX, 1).sum(0), MIN);
    due("17: wrapping down", first(MIN, MIN, -1).sum(0), -1);
    due("17: bad column", new PackedColumns().sum(3), BAD);
  }

  private static void promise18() {
    due("18: no row", new PackedColumns().least(0), NONE);
    PackedColumns t = counted(20);
    due("18: column 0", t.least(0), 0);
    due("18: column 1", t.least(1), 81);
    t.delete(19);
    due("18: not the deleted", t.least(1), 82);
    t.condition(0, 5, 10);
    due("18: within", t.least(0), 5);
    due("18: within, another column", t.least(1), 90);
    t.condition(2, 8, MAX);
    due("18: none chosen", t.least(0), NONE);
    due("18: greater than NONE", first(4, 9).least(0), 4);
    due("18: below NONE", first(-1000000010, -1000000009).least(0), -1000000010);
    due("18: above NONE, behind it", first(NONE, 5).least(0), NONE);
    due("18: NONE first", first(NONE, -1000000004).least(0), -1000000004);
    due("18: MIN", first(3, MIN, 4).least(0), MIN);
    due("18: MAX", first(MAX, MAX).least(0), MAX);
  }

  private static void promise19() {
    due("19: no row", new PackedColumns().ranked(0, 0), NONE);
    PackedColumns t = first(5, MAX, 5, MIN, 7, 5);
    int[] falling = {MAX, 7, 5, 5, 5, MIN};
    for (int k = 0; k < 6; k++) {
      due("19: k " + k, t.ranked(0, k), falling[k]);
    }
    due("19: behind the last", t.ranked(0, 6), NONE);
    due("19: -1", t.ranked(0, -1), NONE);
    due("19: MIN", t.ranked(0, MIN), NONE);
    due("19: MAX", t.ranked(0, MAX), NONE);
    due("19: bad column, no such k", t.ranked(3, -1), BAD);
    t.delete(1);
    due("19: not the deleted", t.ranked(0, 0), 7);
    t.condition(0, 0, 6);
    due("19: within, first", t.ranked(0, 0), 5);
    due("19: within, last", t.ranked(0, 2), 5);
    due("19: within, behind it", t.ranked(0, 3), NONE);
    due("19: row 0", first(9, 8).ranked(0, 0), 9);
    due("19: rows that went", shrunk().ranked(0, 1), NONE);
    PackedColumns s = counted(20);
    s.condition(0, 15, 17);
    due("19: another column", s.ranked(1, 0), 85);
    due("19: another column, last", s.ranked(1, 2), 83);
  }

  private static void promise20() {
    due("20: no row", new PackedColumns().different(0), 0);
    PackedColumns t = first(5, 6, 5, 7, 6, 5);
    due("20: three", t.different(0), 3);
    due("20: one", t.different(1), 1);
    t.delete(3);
    due("20: not the deleted", t.different(0), 2);
    t.delete(0);
    due("20: a later one is left", t.different(0), 2);
    t.condition(0, 6, 9);
    due("20: within", t.different(0), 1);
    t.condition(0, 9, 9);
    due("20: none", t.different(0), 0);
    due("20: 40 rows", counted(40).different(1), 40);
    due("20: bad column", t.different(-1), BAD);
  }

  private static void promise21() {
    due("21: no row", new PackedColumns().commonest(0), NONE);
    due("21: the most", first(1, 9, 9, 2).commonest(0), 9);
    due("21: of several the least", first(9, 3, 9, 3, 1).commonest(0), 3);
    due("21: the least first", first(3, 9, 9, 3, 1).commonest(0), 3);
    due("21: all once", first(4, -4, MIN, MAX).commonest(0), MIN);
    due("21: above NONE", first(8, 7).commonest(0), 7);
    due("21: below NONE", first(-1000000005, -1000000005, 1).commonest(0), -1000000005);
    due("21: row 0", first(1, 2).commonest(0), 1);
    due("21: rows that went", shrunk().commonest(0), 4);
    PackedColumns t = first(1, 9, 9, 2, 2, 9);
    t.delete(1);
    due("21: not the deleted", t.commonest(0), 2);
    t.condition(0, 3, 10);
    due("21: within", t.commonest(0), 9);
    t.condition(1, 1, 1);
    due("21: none", t.commonest(0), NONE);
    due("21: bad column", t.commonest(3), BAD);
  }

  private static void promise22() {
    PackedColumns t = patchedUp();
    for (int i = 0; i < 5; i++) {
      t.delete(i);
    }
    due("22: deleted rows' patches", t.patches(), 20);
    due("22: count for the limit", t.change(25, 0, 1), FULL);
    due("22: refused", t.value(25, 0), 25);
    due("22: until compact", t.compact(), 27);
    due("22: none then", t.patches(), 0);
    due("22: room again", t.change(10, 0, 1), 15);
    due("22: a patch", t.patches(), 1);
  }

  private static void badColumns() {
    PackedColumns t = counted(20);
    t.delete(7);
    for (int c : BAD_COLUMNS) {
      due("bad column, change", t.change(1, c, 5), BAD);
      due("bad column, value", t.value(1, c), BAD);
      due("bad column, form", t.form(0, c), BAD);
      due("bad column, digits", t.digits(c), BAD);
      due("bad column, condition", t.condition(c, 0, 1), BAD);
      due("bad column, sum", t.sum(c), BAD);
      due("bad column, least", t.least(c), BAD);
      due("bad column, ranked", t.ranked(c, 0), BAD);
      due("bad column, different", t.different(c), BAD);
      due("bad column, commonest", t.commonest(c), BAD);
      due("bad column before no row", t.value(7, c), BAD);
      due("bad column before no block", t.form(9, c), BAD);
    }
    due("bad column, patches", t.patches(), 0);
    due("bad column, no condition", t.free(), 0);
    due("bad column, rows", t.count(), 19);
  }

  /** All 96 rows: the last one counts in every question, and none looks behind it. */
  private static void fullTable() {
    PackedColumns t = counted(96);
    due("96 rows: count", t.count(), 96);
    due("96 rows: chosen", t.chosen(95), 95);
    due("96 rows: chosen, none", t.chosen(96), NONE);
    due("96 rows: sum", t.sum(0), 4560);
    due("96 rows: least", t.least(1), 5);
    due("96 rows: ranked", t.ranked(1, 95), 5);
    due("96 rows: ranked, none", t.ranked(1, 96), NONE);
    due("96 rows: different", t.different(0), 96);
    due("96 rows: commonest", t.commonest(1), 5);
    due("96 rows: form", t.form(5, 1), 5);
    due("96 rows: digits", t.digits(2), 192);
    due("96 rows: change", t.change(95, 2, 1), 7);
    due("96 rows: change, none", t.change(96, 2, 1), NONE);
    due("96 rows: value", t.value(95, 2), 1);
    due("96 rows: value, none", t.value(96, 2), NONE);
    due("96 rows: delete, none", t.delete(96), NONE);
    due("96 rows: condition", t.condition(2, 1, 1), 1);
    due("96 rows: passed", t.passed(), 6);
    due("96 rows: compact", t.compact(), 96);
    due("96 rows: passed after compact", t.passed(), 5);
    due("96 rows: delete", t.delete(95), 95);
    due("96 rows: none chosen", t.count(), 0);
  }
}
