import java.lang.reflect.Constructor;
import java.lang.reflect.Field;
import java.lang.reflect.Method;
import java.lang.reflect.Modifier;
import java.util.ArrayList;
import java.util.Arrays;
import java.util.List;
import java.util.Random;
import java.util.TreeSet;

/** The public face as the document has it, and that no call ever throws. */
public final class HaloTreesFace {
  private static final String[] FACE = {"picture/0", "drop/0", "put/4", "lose/2", "weigh/2", "bound/2", "drift/1", "undo/0", "told/1",
      "ofPicture/2", "grain/3", "halo/3", "from/2", "branch/3", "common/3", "within/5", "nearest/3", "below/3", "steps/3", "clumps/2",
      "join/3", "keep/1", "goBack/1"};
  private static int wrong = 0;

  private static void require(boolean holds, String what) {
    if (!holds) {
      wrong++;
      System.out.println("not so: " + what);
    }
  }

  private static void checkConstants() throws IllegalAccessException {
    String[] names = {"NONE", "UNKNOWN", "OUTSIDE", "NOT", "FULL"};
    int[] values = {-1, -1000000001, -1000000002, -1000000003, -1000000004};
    int publicFields = 0;
    for (Field field : HaloTrees.class.getDeclaredFields()) {
      int at = Arrays.asList(names).indexOf(field.getName());
      boolean isPublic = Modifier.isPublic(field.getModifiers());
      require(at >= 0 == isPublic && (isPublic || Modifier.isPrivate(field.getModifiers())), "visibility of " + field.getName());
      require(!Modifier.isStatic(field.getModifiers()) || Modifier.isFinal(field.getModifiers()), field.getName() + " is final");
      if (at >= 0) {
        publicFields++;
        require(field.getType() == int.class && field.getInt(null) == values[at], "value of " + names[at]);
      }
    }
    require(publicFields == names.length, "the five constants");
  }

  private static void checkMethods() {
    TreeSet<String> found = new TreeSet<>();
    TreeSet<String> publicNames = new TreeSet<>();
    for (String method : FACE) publicNames.add(method.substring(0, method.indexOf('/')));
    List<Class<?>> all = new ArrayList<>(Arrays.asList(HaloTrees.class.getDeclaredClasses()));
    all.add(HaloTrees.class);
    for (Class<?> c : all) {
      for (Method m : c.getDeclaredMethods()) {
        if (m.isSynthetic()) continue;
        require(m.getParameterCount() <= 7, "at most seven parameters: " + m);
        if (c == HaloTrees.class && Modifier.isPublic(m.getModifiers())) {
          found.add(m.getName() + "/" + m.getParameterCount());
          require(m.getReturnType() == int.class && !Modifier.isStatic(m.getModifiers()), "int and of the object: " + m);
        } else {
          require(!publicNames.contains(m.getName()), "no other method bears a public one's name: " + m);
          require(c != HaloTrees.class || Modifier.isPrivate(m.getModifiers()), "private: " + m);
        }
      }
    }
    require(found.equals(new TreeSet<>(Arrays.asList(FACE))), "the methods of the face, but " + found);
    Constructor<?>[] constructors = HaloTrees.class.getConstructors();
    require(constructors.length == 1 && constructors[0].getParameterCount() == 0, "one public constructor");
    require(HaloTrees.class.getDeclaredConstructors().length == 1, "no other constructor");
    require(Modifier.isFinal(HaloTrees.class.getModifiers()), "the class is final");
    for (Class<?> c : HaloTrees.class.getDeclaredClasses()) require(Modifier.isStatic(c.getModifiers()), c + " is static");
    require(all.size() <= 12, "at most twelve classes");
  }

  /** All calls with numbers from the ends of int and around every bound, on an object that is in full use. */
  private static void checkThatNoCallThrows() throws ReflectiveOperationException {
    int[] numbers = {Integer.MIN_VALUE, Integer.MIN_VALUE + 1, -1000000, -2, -1, 0, 1, 2, 3, 4, 5, 6, 7, 8, 9, 10, 22, 23, 24, 25, 31, 32,
        33, 40, 41, 63, 64, 89, 90, 91, 99, 100, 143, 144, 9999, 10000, 999999, 1000000, Integer.MAX_VALUE - 1, Integer.MAX_VALUE};
    Random r = new Random(5);
    List<Method> methods = new ArrayList<>();
    for (Method m : HaloTrees.class.getDeclaredMethods()) if (Modifier.isPublic(m.getModifiers())) methods.add(m);
    methods.sort((a, b) -> a.getName().compareTo(b.getName()));
    for (int run = 0; run < 400; run++) {
      HaloTrees t = new HaloTrees();
      for (int i = 0; i < run % 7; i++) t.drift(run + 1 + i);
      for (int call = 0; call < 500; call++) {
        Method m = methods.get(r.nextInt(methods.size()));
        Object[] arguments = new Object[m.getParameterCount()];
        for (int i = 0; i < arguments.length; i++) arguments[i] = r.nextInt(3) == 0 ? numbers[r.nextInt(numbers.length)] : r.nextInt(6);
        try {
          m.invoke(t, arguments);
        } catch (java.lang.reflect.InvocationTargetException thrown) {
          require(false, m.getName() + Arrays.toString(arguments) + " threw " + thrown.getCause());
        }
      }
    }
  }

  public static void main(String[] args) throws Exception {
    checkConstants();
    checkMethods();
    checkThatNoCallThrows();
    System.out.println(wrong == 0 ? "the face is kept and no call throws" : wrong + " things are not so");
    if (wrong != 0) System.exit(1);
  }
}
