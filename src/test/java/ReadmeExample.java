import java.lang.reflect.Method;
import java.nio.file.Files;
import java.nio.file.Path;
import java.util.Arrays;
import java.util.HashSet;
import java.util.Set;
import java.util.regex.Matcher;
import java.util.regex.Pattern;

// Makes the calls of the example in README.md and looks whether each answers what stands behind it;
// the calls that README.md tells of must be those of the class, each once.
public final class ReadmeExample {
  private static final Pattern EXAMPLE = Pattern.compile("^table\\.(\\w+)\\((.*)\\); +// (-?\\w+).*$");
  private static final Pattern TOLD = Pattern.compile("^\\| `(\\w+)\\((.*?)\\)` \\|.*$");

  private static int wrong = 0;

  private static void due(String what, int got, int want) {
    if (got != want) {
      wrong++;
      System.out.println(what + " answered " + got + ", due is " + want);
    }
  }

  private static String[] split(String arguments) {
    return arguments.isEmpty() ? new String[0] : arguments.split(", ");
  }

  private static Method called(String name, int arguments) throws ReflectiveOperationException {
    Class<?>[] types = new Class<?>[arguments];
    Arrays.fill(types, int.class);
    return PackedColumns.class.getMethod(name, types);
  }

  private static int number(String word) throws ReflectiveOperationException {
    return Character.isUpperCase(word.charAt(0))
        ? PackedColumns.class.getField(word).getInt(null)
        : Integer.parseInt(word);
  }

  private static void make(PackedColumns table, Matcher call) throws ReflectiveOperationException {
    String[] arguments = split(call.group(2));
    Object[] numbers = new Object[arguments.length];
    for (int i = 0; i < numbers.length; i++) {
      numbers[i] = Integer.parseInt(arguments[i]);
    }
    int got = (Integer) called(call.group(1), numbers.length).invoke(table, numbers);
    due(call.group(1) + "(" + call.group(2) + ")", got, number(call.group(3)));
  }

  public static void main(String[] args) throws Exception {
    PackedColumns table = new PackedColumns();
    int made = 0;
    Set<Method> told = new HashSet<>();
    for (String line : Files.readAllLines(Path.of("README.md"))) {
      Matcher call = EXAMPLE.matcher(line);
      Matcher row = TOLD.matcher(line);
      if (call.matches()) {
        make(table, call);
        made++;
      } else if (line.startsWith("table.")) {
        due("a line of the example that can't be read, " + line + ",", 0, 1);
      } else if (row.matches()) {
        boolean first = told.add(called(row.group(1), split(row.group(2)).length));
        due("telling of " + row.group(1) + " once", first ? 1 : 2, 1);
      }
    }
    due("calls of the example: more than ten", made > 10 ? 1 : 0, 1);
    due("calls that are told of", told.size(), 20);
    System.out.println(made + " calls of the example, " + told.size() + " told of, " + wrong + " not as due");
    if (wrong != 0) {
      System.exit(1);
    }
  }
}
