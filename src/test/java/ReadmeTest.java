import java.lang.reflect.InvocationTargetException;
import java.lang.reflect.Method;
import java.nio.file.Files;
import java.nio.file.Path;
import java.util.ArrayList;
import java.util.List;
import java.util.regex.Matcher;
import java.util.regex.Pattern;

/** Every call of the README's example is made, and answers what the comment behind it says. */
public final class ReadmeTest {
  private static final Pattern CALL = Pattern.compile("desk\\.(\\w+)\\(([^)]*)\\);");
  private static final Pattern ANSWER = Pattern.compile("// = (-?\\w+)");

  private static int wrong = 0;

  public static void main(String[] args) throws Exception {
    ConvexDesk desk = new ConvexDesk();
    List<String> called = new ArrayList<>();
    int told = 0;
    for (String line : exampleOf(Files.readString(Path.of("README.md")))) {
      String answer = null;
      Matcher call = CALL.matcher(line);
      while (call.find()) {
        called.add(call.group(1));
        answer = answerOf(desk, call.group(1), call.group(2));
      }
      Matcher due = ANSWER.matcher(line);
      if (due.find()) {
        told++;
        must(due.group(1).equals(answer), line.strip() + " answered " + answer);
      }
    }
    must(told > 0, "the example tells no answer");
    for (Method method : ConvexDesk.class.getMethods()) {
      boolean own = method.getDeclaringClass() == ConvexDesk.class;
      boolean shown = called.contains(method.getName()) || method.getName().equals("hush");
      must(!own || shown, "the example does not call " + method.getName());
    }
    System.out.println(wrong == 0 ? "all answers are as due" : wrong + " things are not as due");
    if (wrong != 0) {
      System.exit(1);
    }
  }

  private static String[] exampleOf(String readme) {
    int start = readme.indexOf("```java");
    int end = readme.indexOf("```", start + 7);
    must(start >= 0 && end > start, "there is no example");
    return start >= 0 && end > start ? readme.substring(start, end).split("\n") : new String[0];
  }

  private static String answerOf(ConvexDesk desk, String name, String told) throws Exception {
    String[] words = told.isEmpty() ? new String[0] : told.split(", ");
    Object[] values = new Object[words.length];
    Class<?>[] types = new Class<?>[words.length];
    for (int i = 0; i < words.length; i++) {
      boolean yesOrNo = words[i].equals("true") || words[i].equals("false");
      types[i] = yesOrNo ? boolean.class : int.class;
      values[i] = yesOrNo ? (Object) Boolean.valueOf(words[i]) : Integer.valueOf(words[i]);
    }
    try {
      return String.valueOf(ConvexDesk.class.getMethod(name, types).invoke(desk, values));
    } catch (InvocationTargetException e) {
      return e.getCause().getClass().getSimpleName();
    }
  }

  private static void must(boolean holds, String what) {
    if (!holds) {
      wrong++;
      System.out.println("not as due: " + what);
    }
  }
}
