import java.lang.reflect.Field;
import java.lang.reflect.Method;
import java.lang.reflect.Modifier;
import java.nio.file.Files;
import java.nio.file.Path;
import java.util.regex.Matcher;
import java.util.regex.Pattern;

/** What can be read off the program's text of the rules in LANGUAGE.md, told by their numbers. */
public final class LanguageTest {
  private static final String MAY_BE_THROWN =
      "IllegalStateException|IllegalArgumentException|IndexOutOfBoundsException"
          + "|ArithmeticException|UnsupportedOperationException|NoSuchElementException"
          + "|RuntimeException";
  private static final String LIBRARY =
      "Math\\.(abs|max|min|floorDiv|floorMod)|Long\\.(compare|max|min|abs)"
          + "|Integer\\.(compare|max|min|bitCount)|System\\.arraycopy|Arrays\\.(copyOf|fill)";

  private static int wrong = 0;

  public static void main(String[] args) throws Exception {
    String program = Files.readString(Path.of("src/main/java/ConvexDesk.java"));
    String code = bare(program);
    none(1, code, "\\bpackage\\b|\\bprotected\\b|\\bpublic (static|class|interface)\\b");
    none(2, code, "->|::");
    none(4, code, "\\bimport\\b|\\bjava\\.|\\bjavax\\.");
    none(4, code, "\\b(?!(" + LIBRARY + ")\\()(Math|Long|Integer|System|Arrays|String)\\.\\w+");
    none(5, code, "\\bstatic (?!final\\b)(?!\\w+(\\[\\])? \\w+\\()");
    none(5, code, "\\bstatic final (?!class\\b)(?!(int|long|boolean|char|String)(\\[\\])? )");
    none(6, code, "\\bthrow (?!new (" + MAY_BE_THROWN + ")\\((\"\")?\\);)");
    // The rule allows some try and catch; the program needs none.
    none(6, code, "\\b(try|catch|finally|synchronized|assert|equals|hashCode|toString)\\b");
    none(6, code, "\\bextends \\w*Exception\\b");
    none(13, code, "\\b(Thread|Random|nanoTime|currentTimeMillis|File|System\\.(in|out|getenv))\\b");
    must(11, count(code, "\\b(class|interface|enum|record) \\w+") <= 12, "too many classes");
    lengths(code.split("\n"));
    counts(ConvexDesk.class);
    for (Class<?> inside : ConvexDesk.class.getDeclaredClasses()) {
      counts(inside);
    }
    System.out.println(wrong == 0 ? "the text is as due" : wrong + " things are not as due");
    if (wrong != 0) {
      System.exit(1);
    }
  }

  /** The text without comments, and without what its strings say. */
  private static String bare(String program) {
    String plain = program.replaceAll("\"(\\\\.|[^\"\\\\\n])*\"", "\"\"");
    return plain.replaceAll("(?s)/\\*.*?\\*/", "").replaceAll("//[^\n]*", "");
  }

  private static void none(int rule, String code, String forbidden) {
    Matcher found = Pattern.compile(forbidden).matcher(code);
    while (found.find()) {
      must(rule, false, found.group());
    }
  }

  private static int count(String code, String wanted) {
    Matcher found = Pattern.compile(wanted).matcher(code);
    int many = 0;
    while (found.find()) {
      many++;
    }
    return many;
  }

  /** What stands two or four columns in and opens a block is a method, a class or part of a method. */
  private static void lengths(String[] lines) {
    int seen = 0;
    for (int i = 0; i < lines.length; i++) {
      String line = lines[i];
      boolean opens = line.matches("( {2}| {4})[a-zA-Z][^;=]*") && !line.contains(" class ");
      String close = line.startsWith("    ") ? "    }" : "  }";
      int end = i;
      while (opens && end < lines.length && !lines[end].startsWith(close)) {
        end++;
      }
      seen += opens ? 1 : 0;
      must(11, end - i < 60, "a long method: " + line.strip());
    }
    must(11, seen > 60, "only " + seen + " methods were found");
  }

  private static void counts(Class<?> of) {
    for (Method method : of.getDeclaredMethods()) {
      must(11, method.getParameterCount() <= 7, "many parameters: " + method);
    }
    int fields = 0;
    for (Field field : of.getDeclaredFields()) {
      fields += Modifier.isStatic(field.getModifiers()) ? 0 : 1;
    }
    must(11, fields <= 20, "many fields: " + of);
  }

  private static void must(int rule, boolean holds, String what) {
    if (!holds) {
      wrong++;
      System.out.println("not as due by rule " + rule + ": " + what);
    }
  }
}
