import java.lang.reflect.Method;
import java.nio.file.Files;
import java.nio.file.Path;
import java.util.regex.Matcher;
import java.util.regex.Pattern;

/** The calls that README.md shows answer what it says beside them. */
public final class ReadmeTest {
  private static final Pattern NEW = Pattern.compile("BuriedBySevens x = new BuriedBySevens\\(\\);");
  private static final Pattern LETTERS =
      Pattern.compile("for \\(char letter : \"([^\"]*)\"\\.toCharArray\\(\\)\\) x\\.feed\\(letter\\);");
  private static final Pattern CALL = Pattern.compile("x\\.(\\w+)\\(([^)]*)\\); +// (-?\\d+)(:.*)?");

  private static int asked = 0;
  private static int wrong = 0;
  private static BuriedBySevens x = null;

  public static void main(String[] args) throws Exception {
    boolean inside = false;
    for (String line : Files.readString(Path.of("README.md")).split("\n")) {
      if (line.startsWith("```")) {
        inside = line.equals("```java");
      } else if (inside) {
        follow(line);
      }
    }
    if (asked == 0) {
      wrong++;
      System.out.println("README.md shows no call");
    }
    System.out.println(asked + " calls of README.md asked, " + wrong + " not as it says");
    if (wrong != 0) {
      System.exit(1);
    }
  }

  private static void follow(String line) throws Exception {
    Matcher letters = LETTERS.matcher(line);
    Matcher call = CALL.matcher(line);
    if (NEW.matcher(line).matches()) {
      x = new BuriedBySevens();
    } else if (letters.matches()) {
      for (char letter : letters.group(1).toCharArray()) {
        x.feed(letter);
      }
    } else if (call.matches()) {
      due(line, answer(call.group(1), call.group(2)), Long.parseLong(call.group(3)));
    } else {
      wrong++;
      System.out.println("no call with its answer: " + line);
    }
  }

  private static void due(String line, long got, long want) {
    asked++;
    if (got != want) {
      wrong++;
      System.out.println(line + " answered " + got);
    }
  }

  private static long answer(String name, String told) throws Exception {
    String[] numbers = told.isEmpty() ? new String[0] : told.split(", *");
    Object[] with = new Object[numbers.length];
    Class<?>[] types = new Class<?>[numbers.length];
    for (int k = 0; k < numbers.length; k++) {
      with[k] = Integer.parseInt(numbers[k]);
      types[k] = int.class;
    }
    Method method = BuriedBySevens.class.getMethod(name, types);
    return ((Number) method.invoke(x, with)).longValue();
  }
}
