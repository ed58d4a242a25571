import java.lang.reflect.Constructor;
import java.lang.reflect.Field;
import java.lang.reflect.Method;
import java.lang.reflect.Modifier;
import java.nio.file.Files;
import java.nio.file.Path;
import java.util.ArrayList;
import java.util.Arrays;
import java.util.List;
import java.util.Random;
import java.util.TreeSet;
import java.util.regex.Matcher;
import java.util.regex.Pattern;

/** What LANGUAGE.md asks of the class, as far as a program can see it. */
public final class RulesTest {
  private static final Path SOURCE = Path.of("src/main/java/BuriedBySevens.java");
  private static final Path DOCUMENT = Path.of("../shared/DOC.md");
  private static int wrong = 0;

  public static void main(String[] args) throws Exception {
    String source = Files.readString(SOURCE);
    String code = source.replaceAll("(?s)/\\*.*?\\*/", " ").replaceAll("//[^\n]*", " ");
    face();
    members();
    words(code);
    lengths(source);
    endsForAnyArguments();
    anObjectIsSmall();
    System.out.println(wrong == 0 ? "the rules are kept" : wrong + " rules are not kept");
    if (wrong != 0) {
      System.exit(1);
    }
  }

  private static void due(boolean right, String what) {
    if (!right) {
      wrong++;
      System.out.println(what);
    }
  }

  /** The public methods are those of the document's face, no more and no fewer. */
  private static void face() throws Exception {
    String text = Files.readString(DOCUMENT);
    text = text.substring(text.indexOf("public final class"), text.indexOf("## Terms"));
    TreeSet<String> told = new TreeSet<>();
    Matcher m = Pattern.compile("public (int|long) (\\w+)\\(([^)]*)\\);").matcher(text);
    while (m.find()) {
      told.add(m.group(1) + " " + m.group(2) + "(" + m.group(3).replaceAll("int \\w+", "int").replace(" ", "") + ")");
    }
    TreeSet<String> has = new TreeSet<>();
    for (Method method : BuriedBySevens.class.getDeclaredMethods()) {
      if (!Modifier.isPrivate(method.getModifiers())) {
        String types = Arrays.toString(method.getParameterTypes()).replaceAll("[\\[\\] ]", "");
        has.add(method.getReturnType() + " " + method.getName() + "(" + types + ")");
      }
    }
    due(told.size() == 56, "the document tells " + told.size() + " methods");
    due(told.equals(has), "the face is " + has + ", due is " + told);
    due(Modifier.isFinal(BuriedBySevens.class.getModifiers()), "the class is not final");
    Constructor<?>[] makers = BuriedBySevens.class.getDeclaredConstructors();
    due(makers.length == 1 && Modifier.isPublic(makers[0].getModifiers()), "constructors: " + Arrays.toString(makers));
  }

  private static void members() {
    TreeSet<String> names = new TreeSet<>();
    for (Method method : BuriedBySevens.class.getDeclaredMethods()) {
      if (Modifier.isPublic(method.getModifiers())) {
        names.add(method.getName());
      }
    }
    Class<?>[] inside = BuriedBySevens.class.getDeclaredClasses();
    due(inside.length <= 12, inside.length + " classes");
    List<Class<?>> all = new ArrayList<>(Arrays.asList(inside));
    all.add(BuriedBySevens.class);
    for (Class<?> c : all) {
      int fields = 0;
      for (Field f : c.getDeclaredFields()) {
        boolean ofClass = Modifier.isStatic(f.getModifiers());
        fields += ofClass ? 0 : 1;
        due(!ofClass || Modifier.isFinal(f.getModifiers()), f + " is static and not final");
        due(c != BuriedBySevens.class || Modifier.isPrivate(f.getModifiers()), f + " is not private");
      }
      due(fields <= 20, c + " has " + fields + " fields");
      for (Method method : c.getDeclaredMethods()) {
        due(Modifier.isPublic(method.getModifiers()) || !names.contains(method.getName()), method + " bears a public name");
        due(method.getParameterCount() <= 7, method + " takes too much");
      }
      due(c == BuriedBySevens.class || Modifier.isStatic(c.getModifiers()), c + " is not static");
    }
  }

  private static void words(String code) {
    String[] none = {"\\bthrow\\b", "\\btry\\b", "\\bcatch\\b", "\\bsynchronized\\b", "\\bassert\\b", "->", "::",
        "\\bSystem\\.(?!arraycopy)", "\\bequals\\b", "\\bhashCode\\b", "\\btoString\\b", "Exact\\b", "\\bInteger\\.(?!bitCount)",
        "\\bRandom\\b", "\\bThread\\b", "\\bpackage\\b", "\"", "\\bdouble\\b", "\\bfloat\\b", "\\bObject\\b", "while \\(true\\)"};
    for (String word : none) {
      due(!Pattern.compile(word).matcher(code).find(), "the class says " + word);
    }
    Matcher m = Pattern.compile("import ([^;]*);").matcher(code);
    while (m.find()) {
      due(m.group(1).equals("java.util.Arrays"), "import of " + m.group(1));
    }
    m = Pattern.compile("\\bnew\\b").matcher(code);
    while (m.find()) {
      String ahead = code.substring(code.lastIndexOf('\n', m.start()) + 1, m.start());
      due(ahead.contains(" final ") && ahead.contains("="), "made outside a constructor: " + ahead);
    }
  }

  private static void lengths(String source) {
    String name = "";
    int begun = 0;
    String[] lines = source.split("\n");
    Pattern head = Pattern.compile("^( {4}| {8})[a-z].*\\b(\\w+)\\([^;]*\\) \\{$");
    for (int i = 0; i < lines.length; i++) {
      Matcher m = head.matcher(lines[i]);
      if (m.matches()) {
        name = m.group(2);
        begun = i;
      }
      due(i - begun <= 60 || !lines[i].matches("^( {4}| {8})\\}$") || name.isEmpty(), name + " is " + (i - begun) + " lines long");
      if (lines[i].matches("^( {4}| {8})\\}$")) {
        name = "";
      }
      due(lines[i].length() <= 110, "line " + (i + 1) + " is long");
    }
  }

  /** No call throws, whatever it is asked in whatever state. */
  private static void endsForAnyArguments() throws Exception {
    Method[] methods = sorted();
    Random lot = new Random(11);
    int[] edges = {Integer.MIN_VALUE, -1000000, -10, -9, -2, -1, 0, 1, 2, 3, 4, 5, 6, 7, 8, 9, 10, 15, 16, 20, 99, 100, 'c', ';',
        255, 256, 9999, 10000, Integer.MAX_VALUE - 1, Integer.MAX_VALUE};
    for (int run = 0; run < 60; run++) {
      BuriedBySevens x = new BuriedBySevens();
      for (int call = 0; call < 512; call++) {
        Method method = methods[lot.nextInt(methods.length)];
        Object[] with = new Object[method.getParameterCount()];
        for (int k = 0; k < with.length; k++) {
          with[k] = lot.nextInt(3) == 0 ? edges[lot.nextInt(edges.length)] : lot.nextInt(7);
        }
        try {
          method.invoke(x, with);
        } catch (java.lang.reflect.InvocationTargetException e) {
          due(false, method.getName() + Arrays.toString(with) + " threw " + e.getCause());
          return;
        }
      }
    }
  }

  private static Method[] sorted() {
    List<Method> all = new ArrayList<>();
    for (Method method : BuriedBySevens.class.getDeclaredMethods()) {
      if (Modifier.isPublic(method.getModifiers())) {
        all.add(method);
      }
    }
    all.sort((a, b) -> a.getName().compareTo(b.getName()));
    return all.toArray(new Method[0]);
  }

  /** All rows are made with the object, few enough for hundreds of objects in one room. */
  private static void anObjectIsSmall() throws Exception {
    long[] made = {0, 0};
    count(new BuriedBySevens(), made);
    due(made[0] <= 100, made[0] + " objects and arrays in one object");
    due(made[1] <= 20000, made[1] + " fields and elements in one object");
  }

  private static void count(Object what, long[] made) throws Exception {
    made[0]++;
    if (what instanceof int[] row) {
      made[1] += row.length;
      return;
    }
    if (what instanceof int[][] rows) {
      made[1] += rows.length;
      for (int[] row : rows) {
        count(row, made);
      }
      return;
    }
    for (Field f : what.getClass().getDeclaredFields()) {
      if (Modifier.isStatic(f.getModifiers())) {
        continue;
      }
      made[1]++;
      f.setAccessible(true);
      if (!f.getType().isPrimitive()) {
        count(f.get(what), made);
      }
    }
  }
}
