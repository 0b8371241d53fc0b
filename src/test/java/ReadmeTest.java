import java.lang.reflect.Method;
import java.nio.file.Files;
import java.nio.file.Path;
import java.util.regex.Matcher;
import java.util.regex.Pattern;

/** The example in README.md, line by line: each call answers the number that stands behind it. */
public final class ReadmeTest {
  private static final Pattern TABLE = Pattern.compile("for \\(char sign : \"(.*)\"\\.toCharArray\\(\\)\\) x\\.letter\\(sign\\);");
  private static final Pattern CALL = Pattern.compile("x\\.(\\w+)\\(([^)]*)\\);\\s+// (-?\\d+)\\b.*");
  private static int wrong = 0;

  public static void main(String[] args) throws Exception {
    String text = Files.readString(Path.of("README.md"));
    int from = text.indexOf("```java\n");
    int to = text.indexOf("```", from + 1);
    String[] lines = text.substring(from + 8, to).split("\n");
    FlowCodes x = new FlowCodes();
    hold(lines[0].equals("FlowCodes x = new FlowCodes();"), lines[0]);
    for (int i = 1; i < lines.length; i++) check(x, lines[i]);
    hold(lines.length > 10, "the example is too short to be one");
    System.out.println(wrong == 0 ? "the example holds" : wrong + " lines of the example do not hold");
    if (wrong != 0) System.exit(1);
  }

  private static void check(FlowCodes x, String line) throws Exception {
    Matcher table = TABLE.matcher(line);
    Matcher call = CALL.matcher(line);
    if (table.matches()) {
      for (char sign : table.group(1).toCharArray()) x.letter(sign);
    } else if (call.matches()) {
      long got = answer(x, call.group(1), call.group(2));
      hold(got == Long.parseLong(call.group(3)), line + " answered " + got);
    } else {
      hold(false, "no call with its answer: " + line);
    }
  }

  private static long answer(FlowCodes x, String name, String told) throws Exception {
    String[] parts = told.isEmpty() ? new String[0] : told.split(", ");
    Class<?>[] types = new Class<?>[parts.length];
    Object[] numbers = new Object[parts.length];
    for (int i = 0; i < parts.length; i++) {
      types[i] = int.class;
      numbers[i] = Integer.parseInt(parts[i]);
    }
    Method method = FlowCodes.class.getMethod(name, types);
    return ((Number) method.invoke(x, numbers)).longValue();
  }

  private static void hold(boolean holds, String what) {
    if (!holds) { wrong++; System.out.println("README.md: " + what); }
  }
}
