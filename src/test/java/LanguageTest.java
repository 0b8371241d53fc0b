import java.lang.reflect.Constructor;
import java.lang.reflect.Field;
import java.lang.reflect.Method;
import java.lang.reflect.Modifier;
import java.nio.file.Files;
import java.nio.file.Path;
import java.util.Arrays;
import java.util.List;
import java.util.Set;
import java.util.TreeSet;
import java.util.regex.Matcher;
import java.util.regex.Pattern;

/** The rules of LANGUAGE.md that can be seen from the text of the class and from its face. */
public final class LanguageTest {
  private static final String FILE = "src/main/java/FlowCodes.java";
  private static final List<String> FACE = List.of("int letter(int)", "int blank()", "int fault()", "int table()",
      "int entry(int,int)", "int about(int)", "int parting(int,int)", "int least(int)", "int put(int)", "int clear()",
      "int code(int)", "int coded(int)", "int wanted(int,int)", "int logic(int,int)", "int product(int,int,int)",
      "int wide(int,int,int)", "int walk(int)", "int turn(int)", "int count(int)", "long digest()");
  private static int wrong = 0;

  private static void hold(boolean holds, String what) {
    if (!holds) { wrong++; System.out.println("LANGUAGE.md: " + what); }
  }

  public static void main(String[] args) throws Exception {
    face();
    nested();
    text(Files.readString(Path.of(FILE)));
    System.out.println(wrong == 0 ? "the rules hold" : wrong + " rules are broken");
    if (wrong != 0) System.exit(1);
  }

  private static String told(Method m) {
    StringBuilder text = new StringBuilder(m.getReturnType() + " " + m.getName() + "(");
    for (Class<?> type : m.getParameterTypes()) text.append(text.charAt(text.length() - 1) == '(' ? "" : ",").append(type);
    return text.append(")").toString();
  }

  private static void face() {
    Set<String> open = new TreeSet<>();
    Set<String> names = new TreeSet<>();
    for (Method m : FlowCodes.class.getDeclaredMethods()) {
      if (Modifier.isPrivate(m.getModifiers())) continue;
      open.add(told(m));
      names.add(m.getName());
      hold(Modifier.isPublic(m.getModifiers()), "rule 1: " + m);
    }
    hold(open.equals(new TreeSet<>(FACE)), "rule 1: the face is " + open);
    for (Class<?> type : classes())
      for (Method m : type.getDeclaredMethods())
        hold(type == FlowCodes.class && Modifier.isPublic(m.getModifiers()) || !names.contains(m.getName()), "rule 1: the name of " + m);
    Set<String> constants = new TreeSet<>();
    for (Field f : FlowCodes.class.getDeclaredFields()) if (!Modifier.isPrivate(f.getModifiers())) constants.add(f.getName());
    hold(constants.equals(new TreeSet<>(List.of("NONE", "UNKNOWN", "OUTSIDE", "STATE", "FULL"))), "rule 1: constants " + constants);
    Constructor<?>[] makers = FlowCodes.class.getDeclaredConstructors();
    hold(makers.length == 1 && makers[0].getParameterCount() == 0, "rule 1: the constructor");
    hold(Modifier.isFinal(FlowCodes.class.getModifiers()), "rule 1: final");
  }

  private static List<Class<?>> classes() {
    Class<?>[] inside = FlowCodes.class.getDeclaredClasses();
    Class<?>[] all = Arrays.copyOf(inside, inside.length + 1);
    all[inside.length] = FlowCodes.class;
    return Arrays.asList(all);
  }

  private static void nested() {
    hold(classes().size() <= 12, "rule 11: twelve classes");
    for (Class<?> type : classes()) {
      if (type != FlowCodes.class) hold(Modifier.isStatic(type.getModifiers()), "rule 2: static " + type);
      hold(type == FlowCodes.class || !Modifier.isPublic(type.getModifiers()), "rule 1: not public " + type);
      int fields = 0;
      for (Field f : type.getDeclaredFields()) {
        if (Modifier.isStatic(f.getModifiers())) hold(Modifier.isFinal(f.getModifiers()), "rule 5: final " + f);
        else fields++;
      }
      hold(fields <= 20, "rule 11: twenty fields in " + type);
      for (Method m : type.getDeclaredMethods()) hold(m.getParameterCount() <= 7, "rule 11: seven parameters of " + m);
    }
  }

  private static void text(String whole) {
    String code = Pattern.compile("/\\*.*?\\*/", Pattern.DOTALL).matcher(whole).replaceAll("").replaceAll("//[^\n]*", "");
    String words = "import|package|throw|throws|try|catch|finally|synchronized|assert|Exception|Exact|Math\\.random|System"
        + "|Thread|native|volatile|transient|strictfp|double|float|hashCode|toString|getClass|extends|Object";
    Matcher found = Pattern.compile("\\b(" + words + ")\\b|->|::|@|Exact\\(").matcher(code);
    while (found.find()) hold(false, "rules 2 to 6: the text has " + found.group());
    int from = -1;
    String[] lines = whole.split("\n");
    for (int i = 0; i < lines.length; i++) {
      hold(lines[i].chars().allMatch(c -> c < 128), "rule 4: signs of line " + (i + 1));
      if (lines[i].matches(" {4}( {4})?\\S.*\\) \\{") && !lines[i].contains(" class ")) from = i;
      if (lines[i].matches(" {4}( {4})?\\}") && from >= 0) { hold(i - from <= 60, "rule 11: a long method at line " + (from + 1)); from = -1; }
    }
  }
}
