import java.lang.reflect.Constructor;
import java.lang.reflect.Field;
import java.lang.reflect.Method;
import java.lang.reflect.Modifier;
import java.util.Arrays;
import java.util.Set;
import java.util.TreeSet;

// The public face is the document's and no more, and the members keep to LANGUAGE.md
// as far as the compiled class can tell.
public final class PackedColumnsFace {
  private static final Set<String> FACE = new TreeSet<>(Arrays.asList(
      "append 3", "change 3", "delete 1", "compact 0", "rows 0", "value 2", "blocks 0", "form 2",
      "digits 1", "patches 0", "condition 3", "free 0", "passed 0", "count 0", "chosen 1", "sum 1",
      "least 1", "ranked 2", "different 1", "commonest 1"));
  private static final Set<String> CONSTANTS = new TreeSet<>(Arrays.asList("BAD_ARG", "FULL", "NONE"));
  private static final Set<Class<?>> NUMBERS = Set.of(
      int.class, long.class, short.class, byte.class, char.class, boolean.class);

  private static int wrong = 0;

  private static void holds(String what, boolean is) {
    if (!is) {
      wrong++;
      System.out.println("does not hold: " + what);
    }
  }

  private static boolean allowed(Class<?> type) {
    return NUMBERS.contains(type) || type.isArray() && NUMBERS.contains(type.getComponentType());
  }

  private static void theClass() {
    Class<?> c = PackedColumns.class;
    holds("public and final", Modifier.isPublic(c.getModifiers()) && Modifier.isFinal(c.getModifiers()));
    holds("no package", c.getPackageName().isEmpty());
    holds("nothing above it", c.getSuperclass() == Object.class && c.getInterfaces().length == 0);
    holds("no nested class", c.getDeclaredClasses().length == 0);
    Constructor<?>[] made = c.getDeclaredConstructors();
    holds("one public constructor without arguments",
        made.length == 1 && made[0].getParameterCount() == 0 && Modifier.isPublic(made[0].getModifiers()));
  }

  private static void theMethods() {
    Set<String> shown = new TreeSet<>();
    Set<String> names = new TreeSet<>();
    for (String s : FACE) {
      names.add(s.substring(0, s.indexOf(' ')));
    }
    for (Method m : PackedColumns.class.getDeclaredMethods()) {
      String name = m.getName();
      holds(name + " has at most seven parameters", m.getParameterCount() <= 7);
      for (Class<?> type : m.getParameterTypes()) {
        holds(name + " takes numbers and arrays alone", allowed(type));
      }
      if (Modifier.isPrivate(m.getModifiers())) {
        holds(name + " bears no public name", !names.contains(name));
        holds(name + " answers a number", m.getReturnType() == void.class || NUMBERS.contains(m.getReturnType()));
      } else {
        shown.add(name + " " + m.getParameterCount());
        holds(name + " is public", Modifier.isPublic(m.getModifiers()) && !Modifier.isStatic(m.getModifiers()));
        holds(name + " answers an int", m.getReturnType() == int.class);
        for (Class<?> type : m.getParameterTypes()) {
          holds(name + " takes ints", type == int.class);
        }
      }
    }
    holds("the methods are " + FACE + ", not " + shown, shown.equals(FACE));
  }

  private static void theFields() {
    Set<String> shown = new TreeSet<>();
    int held = 0;
    for (Field f : PackedColumns.class.getDeclaredFields()) {
      holds(f.getName() + " is a number or an array", allowed(f.getType()));
      if (Modifier.isStatic(f.getModifiers())) {
        holds(f.getName() + " is a constant",
            Modifier.isFinal(f.getModifiers()) && (f.getType() == int.class || f.getType() == long.class));
      } else {
        held++;
        holds(f.getName() + " is private", Modifier.isPrivate(f.getModifiers()));
      }
      if (!Modifier.isPrivate(f.getModifiers())) {
        shown.add(f.getName());
        holds(f.getName() + " is public", Modifier.isPublic(f.getModifiers()));
      }
    }
    holds("the constants are " + CONSTANTS + ", not " + shown, shown.equals(CONSTANTS));
    holds("at most forty fields", held <= 40);
  }

  public static void main(String[] args) {
    theClass();
    theMethods();
    theFields();
    System.out.println(wrong == 0 ? "the face is as due" : wrong + " things do not hold");
    if (wrong != 0) {
      System.exit(1);
    }
  }
}
