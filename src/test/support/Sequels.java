import java.util.List;
import java.util.function.Consumer;

/**
 * Runs of calls that, taken together, bring to light all that a table holds: its values, what its
 * blocks were packed with, which places are patched, which rows are deleted, and its conditions.
 */
final class Sequels {
  // A value that no table of the tests holds, for changes that must be seen wherever they end up.
  static final int STRANGE = 777777;

  static final List<Consumer<Table>> ALL = List.of(
      Sequels::values, Sequels::looks, Sequels::ranks, Sequels::changes, Sequels::anew, Sequels::growth,
      Sequels::growthAndChanges, Sequels::deletions, t -> packed(t, 0), t -> packed(t, 1), t -> packed(t, 2));

  private Sequels() {}

  private static void values(Table t) {
    for (int c = 0; c < 3; c++) {
      for (int r = 0; r < 96; r++) {
        t.value(r, c);
      }
    }
  }

  private static void sizes(Table t) {
    t.rows();
    t.blocks();
    t.patches();
    t.passed();
    t.count();
    for (int c = 0; c < 3; c++) {
      t.digits(c);
      for (int b = 0; b < 6; b++) {
        t.form(b, c);
      }
    }
  }

  private static void looks(Table t) {
    sizes(t);
    for (int c = 0; c < 3; c++) {
      t.sum(c);
      t.least(c);
      t.different(c);
      t.commonest(c);
    }
    for (int k = 0; k < 96; k++) {
      t.chosen(k);
    }
    for (int i = 0; i < 5; i++) {
      t.condition(0, Integer.MIN_VALUE, Integer.MAX_VALUE);
    }
    t.count();
    t.free();
    sizes(t);
  }

  private static void ranks(Table t) {
    for (int c = 0; c < 3; c++) {
      for (int k = 0; k < 96; k++) {
        t.ranked(c, k);
      }
    }
  }

  private static void changes(Table t) {
    for (int c = 2; c >= 0; c--) {
      for (int r = 0; r < 96; r++) {
        t.change(r, c, STRANGE + 1);
      }
    }
    sizes(t);
  }

  private static void anew(Table t) {
    t.compact();
    sizes(t);
    values(t);
  }

  private static void growth(Table t) {
    for (int i = 0; i < 97; i++) {
      t.append(5, i, -i);
    }
    sizes(t);
    t.free();
    sizes(t);
  }

  /** What a call left at the number of a row that comes later is seen only then. */
  private static void growthAndChanges(Table t) {
    for (int i = 0; i < 76; i++) {
      t.append(i, i, i);
    }
    for (int c = 0; c < 3; c++) {
      for (int r = 0; r < 96; r++) {
        t.change(r, c, STRANGE + 2);
      }
    }
    t.patches();
  }

  private static void deletions(Table t) {
    for (int r = 0; r < 96; r++) {
      t.delete(r);
    }
    sizes(t);
    t.compact();
    sizes(t);
  }

  private static void packed(Table t, int c) {
    t.free();
    for (int v = 0; v < 102; v++) {
      int looked = v == 101 ? STRANGE : v;
      t.condition(c, looked, looked);
      t.passed();
      t.free();
    }
  }
}
