import java.util.List;
import java.util.function.Consumer;
import java.util.function.Supplier;
import java.util.function.ToIntFunction;

/** What the tests share that have, for each sentence of the document, a test of its own. */
abstract class SentenceTest {
  // As the document says them, so that a wrong constant in the class is seen.
  static final int BAD = -1000000001;
  static final int FULL = -1000000002;
  static final int NONE = -1000000003;
  static final int MIN = Integer.MIN_VALUE;
  static final int MAX = Integer.MAX_VALUE;

  private static String words = "";
  private static int sentences = 0;
  private static int looked = 0;
  private static int wrong = 0;

  static void sentence(String said, Runnable test) {
    words = said;
    sentences++;
    int before = looked;
    test.run();
    if (looked == before) {
      fault("no answer was looked at");
    }
  }

  static void fault(String what) {
    wrong++;
    System.out.println("'" + words + "': " + what);
  }

  static void due(String what, int got, int want) {
    looked++;
    if (got != want) {
      fault(what + " answered " + got + ", due is " + want);
    }
  }

  /** The call answers the code, and changes nothing. */
  static void refused(int code, Supplier<Table> start, ToIntFunction<Table> call) {
    changesNothing(code, start, call);
  }

  /** The call has this answer, and no later call can tell that it was made. */
  static void changesNothing(int answer, Supplier<Table> start, ToIntFunction<Table> call) {
    for (Consumer<Table> sequel : Sequels.ALL) {
      Table with = start.get();
      Table without = start.get();
      int begun = without.calls();
      int got = call.applyAsInt(with);
      String name = with.toldFrom(begun).get(0);
      due(name.substring(0, name.lastIndexOf(" answered")), got, answer);
      sequel.accept(with);
      sequel.accept(without);
      alike(name, with.toldFrom(begun + 1), without.toldFrom(begun));
    }
  }

  private static void alike(String name, List<String> with, List<String> without) {
    looked++;
    for (int i = 0; i < without.size(); i++) {
      if (!with.get(i).equals(without.get(i))) {
        fault("after " + name + ", " + with.get(i) + "; without it, " + without.get(i));
        return;
      }
    }
  }

  static void end() {
    System.out.println(sentences + " sentences, " + looked + " answers looked at, " + wrong + " not as due");
    if (wrong != 0) {
      System.exit(1);
    }
  }
}
