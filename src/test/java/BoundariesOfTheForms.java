import java.util.Arrays;
import java.util.function.IntUnaryOperator;

// The sentences about the six forms and the digits that they take: Terms, and promises 9 and 10.
public final class BoundariesOfTheForms extends SentenceTest {
  // Far apart in both directions, so that neither a frame nor steps can hold two of them.
  private static final int[] WIDE = {
    MIN, MAX, MIN + 400, MAX - 300, MIN + 900, MAX - 800, MIN + 2500, MAX - 2600,
    MIN + 5000, MAX - 7000, MIN + 11000, MAX - 13000, MIN + 17000, MAX - 19000, MIN + 23000, MAX - 29000};

  public static void main(String[] args) {
    forms();
    choice();
    promises9And10();
    end();
  }

  private static void forms() {
    sentence("0 plain: 512", BoundariesOfTheForms::plain);
    sentence("1 single, if all are the same: 32", BoundariesOfTheForms::single);
    sentence("2 runs: 37 for each greatest stretch", BoundariesOfTheForms::runs);
    sentence("2 runs: of the same value one behind the other", BoundariesOfTheForms::oneBehindTheOther);
    sentence("3 list, if there are at most 8 different values", BoundariesOfTheForms::atMostEight);
    sentence("3 list: 32 for each of them, and 16 times the least w such that there are at most 2 to the power w of them",
        BoundariesOfTheForms::listWidths);
    sentence("4 frame: the greatest less the least value (as they are, without wrapping)", BoundariesOfTheForms::frameWrapping);
    sentence("4 frame, if it is below 2 to the power 31", BoundariesOfTheForms::frameBound);
    sentence("4 frame: 38 and 16 times the least w such that it is below 2 to the power w", BoundariesOfTheForms::frameWidths);
    sentence("5 steps: the differences v(i + 1) - v(i) (without wrapping) are ints", BoundariesOfTheForms::stepsWrapping);
    sentence("5 steps, if the greatest less the least of them is below 2 to the power 31", BoundariesOfTheForms::stepsBound);
    sentence("5 steps: 70 and 15 times the least w such that that is below 2 to the power w", BoundariesOfTheForms::stepsWidths);
  }

  private static void choice() {
    sentence("in the form that takes the fewest digits", BoundariesOfTheForms::fewest);
    sentence("of several the one with the least number", BoundariesOfTheForms::ties);
    sentence("later changes of values in it are PATCHES, which are kept beside it", BoundariesOfTheForms::patchesTakeNothing);
  }

  private static void promises9And10() {
    sentence("9: The form of column c in block b", BoundariesOfTheForms::formsOfAll);
    sentence("9: NONE if there is no block b", BoundariesOfTheForms::noBlock);
    sentence("10: digits that column c takes in all blocks", BoundariesOfTheForms::digitsOfAll);
    sentence("10: and 32 more for each loose row", BoundariesOfTheForms::digitsOfLooseRows);
  }

  // ---- The ways in which a block comes to be packed ----

  private static int[] block(IntUnaryOperator value) {
    int[] v = new int[16];
    Arrays.setAll(v, value);
    return v;
  }

  private static int[] mirrored(int[] v) {
    return block(i -> v[15 - i]);
  }

  private static void append(Table t, int c, int v) {
    t.append(c == 0 ? v : 3, c == 1 ? v : 3, c == 2 ? v : 3);
  }

  /** However the values come into a block, and in whatever column, they are packed in this form. */
  private static void packs(String what, int form, int digits, int... v) {
    due(what + ": the test's own values", v.length, 16);
    for (int c = 0; c < 3; c++) {
      asDue(what + ", appended", appended(c, v), c, form, digits);
      asDue(what + ", changed while loose", changedLoose(c, v), c, form, digits);
      asDue(what + ", patched and compacted", patchedThenCompacted(c, v), c, form, digits);
      asDue(what + ", moved by compact", movedByCompact(c, v), c, form, digits);
    }
    lastBlock(what, form, digits, v);
  }

  private static void asDue(String what, Table t, int c, int form, int digits) {
    for (int other = 0; other < 3; other++) {
      due(what + ": form in column " + other, t.form(0, other), other == c ? form : 1);
      due(what + ": digits of column " + other, t.digits(other), other == c ? digits : 32);
    }
  }

  private static Table appended(int c, int[] v) {
    Table t = new Table();
    for (int x : v) {
      append(t, c, x);
    }
    return t;
  }

  private static Table changedLoose(int c, int[] v) {
    Table t = new Table();
    for (int i = 0; i < 15; i++) {
      append(t, c, -i);
    }
    for (int i = 0; i < 15; i++) {
      t.change(i, c, v[i]);
    }
    append(t, c, v[15]);
    return t;
  }

  private static Table patchedThenCompacted(int c, int[] v) {
    Table t = new Table();
    for (int i = 0; i < 16; i++) {
      append(t, c, -i);
    }
    for (int i = 0; i < 16; i++) {
      t.change(i, c, v[i]);
    }
    t.compact();
    return t;
  }

  private static Table movedByCompact(int c, int[] v) {
    Table t = new Table();
    append(t, c, 12345);
    for (int x : v) {
      append(t, c, x);
    }
    t.delete(0);
    t.compact();
    return t;
  }

  private static void lastBlock(String what, int form, int digits, int[] v) {
    Table t = new Table();
    for (int i = 0; i < 80; i++) {
      append(t, 1, -1);
    }
    for (int x : v) {
      append(t, 1, x);
    }
    due(what + ", last block: form", t.form(5, 1), form);
    due(what + ", last block: digits", t.digits(1), digits + 5 * 32);
    due(what + ", last block: form before", t.form(4, 1), 1);
  }

  // ---- The forms ----

  private static void plain() {
    packs("16 wide values", 0, 512, WIDE);
    // the nearest that the other forms come: 13 and 14 stretches, 29 and 30 digits a value
    packs("13 stretches", 2, 481, stretches(13));
    packs("14 stretches", 0, 512, stretches(14));
    packs("a frame of 29 digits", 4, 502, framed(MIN, (1L << 29) - 1));
    packs("a frame of 30 digits", 0, 512, framed(MIN, 1L << 29));
    packs("steps of 29 digits", 5, 505, stepped(0, (1L << 29) - 1));
    packs("steps of 30 digits", 0, 512, stepped(0, 1L << 29));
  }

  private static void single() {
    for (int x : new int[] {MIN, NONE, -1, 0, 1, MAX}) {
      packs("all " + x, 1, 32, block(i -> x));
    }
    for (int p = 0; p < 16; p++) {
      int at = p;
      packs("one more at " + p, 4, 54, block(i -> i == at ? 6 : 5));
      packs("one less at " + p, 4, 54, block(i -> i == at ? MIN : MIN + 1));
      boolean end = p == 0 || p == 15;
      packs("one far away at " + p, end ? 2 : 3, end ? 74 : 80, block(i -> i == at ? MAX : MIN));
    }
  }

  /** n stretches of wide values: n - 1 of one row, and one of all the others. */
  private static int[] stretches(int n) {
    return block(i -> WIDE[i < n ? i : n - 1]);
  }

  private static void runs() {
    int[] digits = {32, 74, 111, 148, 185, 222, 259, 296, 333, 370, 407, 444, 481, 512, 512, 512};
    for (int n = 1; n <= 16; n++) {
      int form = n == 1 ? 1 : n <= 13 ? 2 : 0;
      packs(n + " stretches", form, digits[n - 1], stretches(n));
      packs(n + " stretches, the long one first", form, digits[n - 1], mirrored(stretches(n)));
    }
    packs("8 stretches of two", 2, 296, block(i -> WIDE[i / 2]));
    packs("two halves", 2, 74, block(i -> WIDE[i / 8]));
    packs("a last row apart", 2, 74, block(i -> WIDE[i / 15]));
  }

  private static void oneBehindTheOther() {
    // nine different values, too many for a list; a value that comes again begins a stretch
    packs("nine values in 9 stretches", 2, 333, stretches(9));
    packs("nine values in 10 stretches", 2, 370, block(i -> WIDE[i < 9 ? i : 0]));
    packs("nine values in 13 stretches", 2, 481, block(i -> WIDE[i < 9 ? i : i < 13 ? i - 9 : 3]));
    packs("nine values in 14 stretches", 0, 512, block(i -> WIDE[i < 9 ? i : i < 14 ? i - 9 : 4]));
    packs("nine values in 16 stretches", 0, 512, block(i -> WIDE[i % 9]));
    packs("the first value at the end again", 2, 370, block(i -> WIDE[i < 9 ? i : i < 15 ? 8 : 0]));
  }

  private static void atMostEight() {
    packs("seven values", 3, 272, block(i -> WIDE[i % 7]));
    packs("eight values", 3, 304, block(i -> WIDE[i % 8]));
    packs("nine values", 0, 512, block(i -> WIDE[i % 9]));
    packs("ten values", 0, 512, block(i -> WIDE[i % 10]));
    packs("a ninth at the end", 0, 512, block(i -> WIDE[i == 15 ? 8 : i % 8]));
    packs("a ninth at the beginning", 0, 512, block(i -> WIDE[i == 0 ? 8 : i % 8]));
    packs("eight, the last at the end alone", 3, 304, block(i -> WIDE[i == 15 ? 7 : i % 7]));
  }

  private static void listWidths() {
    int[] digits = {32, 80, 128, 160, 208, 240, 272, 304};
    for (int n = 1; n <= 8; n++) {
      int different = n;
      packs("a list of " + n, n == 1 ? 1 : 3, digits[n - 1], block(i -> WIDE[i % different]));
      packs("a list of " + n + ", mirrored", n == 1 ? 1 : 3, digits[n - 1], mirrored(block(i -> WIDE[i % different])));
    }
  }

  /** From base to base + span, to and fro, so that the steps take more than the frame. */
  private static int[] framed(int base, long span) {
    return block(i -> {
      long in = i / 2 % (span + 1);
      return (int) (base + (i % 2 == 0 ? in : span - in));
    });
  }

  private static void frameWrapping() {
    // the spans would wrap to -1, -2 and 0
    packs("MIN to MAX", 0, 512, framed(MIN, (1L << 32) - 1));
    packs("MIN to MAX - 1", 0, 512, framed(MIN, (1L << 32) - 2));
    packs("MIN + 1 to MAX", 0, 512, framed(MIN + 1, (1L << 32) - 2));
    packs("three values, MIN to MAX", 3, 128, block(i -> new int[] {MIN, MAX, 0}[i % 3]));
    packs("two values, MIN and MAX", 3, 80, block(i -> i % 2 == 0 ? MIN : MAX));
    packs("two values, -1 and MAX", 3, 80, block(i -> i % 2 == 0 ? -1 : MAX));
    packs("two values, 0 and MIN", 3, 80, block(i -> i % 2 == 0 ? 0 : MIN));
    packs("across 0", 4, 102, framed(-7, 15));
    packs("at the upper end", 4, 102, framed(MAX - 15, 15));
    packs("at the lower end", 4, 102, framed(MIN, 15));
  }

  private static void frameBound() {
    // With 31 digits a value a frame takes 534, so that on both sides plain is smaller.
    packs("one below the bound", 0, 512, framed(MIN, (1L << 31) - 1));
    packs("the bound", 0, 512, framed(MIN, 1L << 31));
    packs("one above the bound", 0, 512, framed(MIN, (1L << 31) + 1));
    packs("the bound, up to MAX", 0, 512, framed(-1, 1L << 31));
    packs("far above the bound", 0, 512, framed(MIN, (1L << 31) + 15));
  }

  private static void frameWidths() {
    for (int w = 1; w <= 29; w++) {
      long power = 1L << w;
      for (long base : new long[] {MIN, -power / 2, MAX - power}) {
        int b = (int) base;
        packs("one below 2 to the power " + w, 4, 38 + 16 * w, framed(b, power - 1));
        packs("2 to the power " + w, w == 29 ? 0 : 4, w == 29 ? 512 : 54 + 16 * w, framed(b, power));
      }
    }
    packs("2 to the power 0", 4, 54, framed(9, 1));
    packs("a span of 0", 1, 32, framed(9, 0));
    for (int p = 0; p < 16; p++) {
      int at = p;
      packs("the greatest at " + p, 4, 118, block(i -> i == at ? 16 : i * 7 % 15));
      packs("the least at " + p, 4, 118, block(i -> i == at ? -16 : -(i * 7 % 15)));
    }
  }

  /** Steps of 2 to the power 27, too wide for a frame, but for one that is so much greater. */
  private static int[] stepped(int at, long more) {
    return block(i -> (int) (MIN + ((long) i << 27) + (i > at ? more : 0)));
  }

  /** The same, but for one step that is so much smaller. */
  private static int[] steppedBack(int at, long less) {
    return block(i -> (int) (((long) (i - 8) << 27) - (i > at ? less : 0) + less / 2));
  }

  private static void stepsWrapping() {
    // with wrapping, all steps would be the same
    packs("up over MAX", 0, 512, block(i -> i << 28));
    packs("down over MIN", 0, 512, block(i -> -(i << 28) - 1));
    packs("one step from MAX to MIN", 0, 512, block(i -> MAX - 7 + i));
    packs("one step from MIN to MAX", 0, 512, block(i -> MIN + 7 - i));
    packs("the same step up, below MAX", 5, 70, block(i -> MAX - 15 + i));
    packs("the same step down, above MIN", 5, 70, block(i -> MIN + 15 - i));
    // one step that is just an int, and one that just isn't; both take more than plain
    packs("a step of MAX", 0, 512, stepped(7, MAX - (1L << 27)));
    packs("a step of MAX + 1", 0, 512, stepped(7, MAX + 1L - (1L << 27)));
    packs("a step of MIN", 0, 512, mirrored(stepped(7, MAX + 1L - (1L << 27))));
    packs("a step of MIN - 1", 0, 512, mirrored(stepped(7, MAX + 2L - (1L << 27))));
  }

  private static void stepsBound() {
    // With 31 digits a step the steps take 535, so that on both sides plain is smaller.
    packs("one below the bound", 0, 512, stepped(7, (1L << 31) - 1));
    packs("the bound", 0, 512, stepped(7, 1L << 31));
    packs("one above the bound", 0, 512, stepped(7, (1L << 31) + 1));
    // the steps are MAX and MIN in turn, and their span would wrap to -1
    packs("steps of MAX and MIN", 0, 512, block(i -> i % 2 == 0 ? -i / 2 : MAX - i / 2));
    packs("steps of MAX and MIN + 1", 3, 80, block(i -> i % 2 == 0 ? 0 : MAX));
  }

  private static void stepsWidths() {
    packs("all steps the same", 5, 70, stepped(0, 0));
    packs("all steps the same, falling", 5, 70, mirrored(stepped(0, 0)));
    for (int at = 0; at < 15; at++) {
      stepsWidth("one step more, at " + at, 9, stepped(at, 511), stepped(at, 512));
      stepsWidth("one step less, at " + at, 9, steppedBack(at, 511), steppedBack(at, 512));
    }
    for (int w = 0; w <= 29; w++) {
      long power = 1L << w;
      for (int at : new int[] {0, 7, 14}) {
        stepsWidth("one step more, at " + at, w, stepped(at, power - 1), stepped(at, power));
        stepsWidth("one step less, at " + at, w, steppedBack(at, power - 1), steppedBack(at, power));
      }
    }
  }

  private static void stepsWidth(String what, int w, int[] below, int[] power) {
    packs(what + ", one below 2 to the power " + w, 5, 70 + 15 * w, below);
    packs(what + ", mirrored, one below 2 to the power " + w, 5, 70 + 15 * w, mirrored(below));
    packs(what + ", 2 to the power " + w, w == 29 ? 0 : 5, w == 29 ? 512 : 85 + 15 * w, power);
    packs(what + ", mirrored, 2 to the power " + w, w == 29 ? 0 : 5, w == 29 ? 512 : 85 + 15 * w, mirrored(power));
  }

  // ---- The choice between them ----

  private static void fewest() {
    packs("runs 74, list 80, frame 86", 2, 74, block(i -> i < 8 ? 0 : 4));
    packs("runs 74, list 80, frame 70", 4, 70, block(i -> i < 8 ? 0 : 3));
    packs("runs 111, list 80, frame 86", 3, 80, block(i -> i < 4 || i > 7 ? 0 : 4));
    packs("runs 111, list 80, frame 70", 4, 70, block(i -> i < 4 || i > 7 ? 0 : 3));
    packs("runs 296, list 304, frame 310", 2, 296, block(i -> i / 2 % 2 == 0 ? i / 2 : 131000 - i / 2));
    packs("frame 102, steps 70", 5, 70, block(i -> i));
    packs("frame 102, steps 85", 5, 85, block(i -> i == 0 ? 1 : i));
    packs("frame 86, steps 85", 5, 85, block(i -> i / 2));
    packs("frame 70, steps 85", 4, 70, block(i -> i / 4));
  }

  private static void ties() {
    packs("single and a list of one", 1, 32, block(i -> 44));
    // 10 stretches; a greatest step of 2 to the power 19 takes 20 digits, one less 19
    packs("runs 370, steps 370", 2, 370, tenStretches(1 << 19));
    packs("runs 370, steps 355", 5, 355, tenStretches((1 << 19) - 1));
    packs("runs 370, steps 370, widest", 2, 370, tenStretches((1 << 20) - 1));
    packs("runs 370, steps 385", 2, 370, tenStretches(1 << 20));
    // a leap of 2 to the power 15 takes 16 digits, one less 15; an end of 131071 takes 17, one more 18
    packs("frame 310, steps 310", 4, 310, leap(1 << 15, 131071));
    packs("frame 310, steps 295", 5, 295, leap((1 << 15) - 1, 131071));
    packs("frame 326, steps 310", 5, 310, leap(1 << 15, 131072));
    packs("frame 294, steps 310", 4, 294, leap(1 << 15, 65535));
  }

  /** Seven rows of the same value, then nine others, one of them by the greatest step; too wide for the frame. */
  private static int[] tenStretches(int greatest) {
    return block(i -> i < 7 ? 0 : (i - 6) * 400000 + (i == 15 ? greatest - 400000 : 0));
  }

  /** A first step that is so much greater than the least of the others, which bring the last row to the end. */
  private static int[] leap(int more, int end) {
    int step = (end - more) / 15;
    int rest = end - more - 15 * step;
    return block(i -> i == 0 ? 0 : more + i * step + (i - 1 < rest ? i - 1 : rest));
  }

  private static void patchesTakeNothing() {
    patched("plain", 0, 512, WIDE);
    patched("single", 1, 32, block(i -> 9));
    patched("runs", 2, 74, block(i -> WIDE[i / 8]));
    patched("list", 3, 80, block(i -> WIDE[i % 2]));
    patched("frame", 4, 54, block(i -> i % 2));
    patched("steps", 5, 70, block(i -> 10 * i));
  }

  /** Patched row by row, upwards and downwards, until no value is left that it was packed with. */
  private static void patched(String what, int form, int digits, int[] v) {
    for (int c = 0; c < 3; c++) {
      Table up = appended(c, v);
      Table down = appended(c, v);
      for (int i = 0; i < 16; i++) {
        up.change(i, c, v[i] + 1000003 * (i + 1));
        asDue(what + ", patched up to " + i, up, c, form, digits);
        down.change(15 - i, c, 8);
        asDue(what + ", patched down to " + (15 - i), down, c, form, digits);
      }
      down.compact();
      asDue(what + ", packed anew", down, c, 1, 32);
    }
  }

  // ---- Promises 9 and 10 ----

  /** Block b has, in column c, the values of the form (b + 2 * c) % 6. */
  private static Table allForms() {
    int[][] v = {
      WIDE, block(i -> 9), block(i -> WIDE[i / 8]), block(i -> WIDE[i % 2]), block(i -> i % 2), block(i -> 10 * i)};
    Table t = new Table();
    for (int r = 0; r < 96; r++) {
      int b = r / 16;
      int i = r % 16;
      t.append(v[b][i], v[(b + 2) % 6][i], v[(b + 4) % 6][i]);
    }
    return t;
  }

  private static void formsOfAll() {
    Table t = allForms();
    for (int b = 0; b < 6; b++) {
      for (int c = 0; c < 3; c++) {
        due("block " + b + ", column " + c, t.form(b, c), (b + 2 * c) % 6);
      }
    }
    t.delete(0);
    t.delete(95);
    t.change(20, 0, 1);
    for (int b = 0; b < 6; b++) {
      due("block " + b + " after changes", t.form(b, 0), b);
    }
  }

  private static void noBlock() {
    due("the only block of 31 rows", Table.counted(31).form(0, 0), 5);
    for (int b : new int[] {-1, 1, 2, 5, 6, MIN, MAX}) {
      refused(NONE, () -> Table.counted(31), t -> t.form(b, 0));
    }
    refused(NONE, Table::new, t -> t.form(0, 2));
    refused(NONE, () -> Table.counted(15), t -> t.form(0, 1));
    due("the last block of 96 rows", Table.full().form(5, 1), 5);
    for (int b : new int[] {-1, 6, MIN, MAX}) {
      refused(NONE, Table::full, t -> t.form(b, 1));
    }
    Table t = Table.counted(32);
    due("block 1 before", t.form(1, 2), 1);
    t.delete(31);
    due("block 1 with a deleted row", t.form(1, 2), 1);
    t.compact();
    due("block 1 after", t.form(1, 2), NONE);
    due("block 0 after", t.form(0, 2), 1);
  }

  private static void digitsOfAll() {
    Table t = allForms();
    int all = 512 + 32 + 74 + 80 + 54 + 70;
    for (int c = 0; c < 3; c++) {
      due("column " + c, t.digits(c), all);
    }
    t.delete(0);
    t.change(20, 0, 1);
    due("after changes", t.digits(0), all);
    Table s = new Table();
    for (int r = 0; r < 96; r++) {
      s.append(WIDE[r % 16], 0, r);
    }
    due("the most", s.digits(0), 3072);
    due("the fewest", s.digits(1), 192);
    due("six times steps", s.digits(2), 420);
  }

  private static void digitsOfLooseRows() {
    due("no row", new Table().digits(0), 0);
    for (int n = 1; n <= 96; n++) {
      Table t = Table.counted(n);
      due("column 0 of " + n, t.digits(0), n / 16 * 70 + n % 16 * 32);
      due("column 2 of " + n, t.digits(2), n / 16 * 32 + n % 16 * 32);
      t.delete(n - 1);
      due("column 0 of " + n + ", the last deleted", t.digits(0), n / 16 * 70 + n % 16 * 32);
      t.compact();
      due("column 0 of " + n + ", the last gone", t.digits(0), (n - 1) / 16 * 70 + (n - 1) % 16 * 32);
    }
  }
}
