import java.lang.reflect.Constructor;
import java.lang.reflect.Field;
import java.lang.reflect.Method;
import java.lang.reflect.Modifier;
import java.util.TreeSet;

/** The public face is the document's, and the class keeps no other state that lives outside it. */
public final class FaceTest {
  private static final String[] FACE = {
    "public ConvexDesk()",
    "public int ConvexDesk.say(int)"
        + " throws java.lang.IllegalArgumentException,java.lang.IllegalStateException",
    "public void ConvexDesk.hush()",
    "public void ConvexDesk.set(int,boolean) throws java.lang.IndexOutOfBoundsException",
    "public int ConvexDesk.constrain(int,boolean)"
        + " throws java.lang.IndexOutOfBoundsException,java.lang.IllegalArgumentException,"
        + "java.lang.ArithmeticException,java.lang.IllegalStateException",
    "public int ConvexDesk.generate(int,boolean)"
        + " throws java.lang.IndexOutOfBoundsException,java.lang.IllegalArgumentException,"
        + "java.lang.UnsupportedOperationException,java.lang.ArithmeticException,"
        + "java.lang.IllegalStateException",
    "public int ConvexDesk.combine(int,int,int,int)"
        + " throws java.lang.IndexOutOfBoundsException,java.lang.IllegalArgumentException,"
        + "java.lang.ArithmeticException,java.lang.IllegalStateException",
    "public int ConvexDesk.map(int,boolean,int)"
        + " throws java.lang.IndexOutOfBoundsException,java.lang.IllegalArgumentException,"
        + "java.lang.ArithmeticException,java.lang.IllegalStateException",
    "public int ConvexDesk.maximum(int)"
        + " throws java.lang.IndexOutOfBoundsException,java.lang.IllegalArgumentException",
    "public int ConvexDesk.greatest(int)"
        + " throws java.lang.IllegalStateException,java.lang.IndexOutOfBoundsException",
    "public boolean ConvexDesk.has(int)"
        + " throws java.lang.IndexOutOfBoundsException,java.lang.IllegalArgumentException",
    "public boolean ConvexDesk.includes(int,int) throws java.lang.IndexOutOfBoundsException",
    "public int ConvexDesk.dimension(int) throws java.lang.IndexOutOfBoundsException",
    "public int ConvexDesk.rows(int,int)"
        + " throws java.lang.IndexOutOfBoundsException,java.lang.IllegalArgumentException",
    "public int ConvexDesk.row(int,int,int,int)"
        + " throws java.lang.IndexOutOfBoundsException,java.lang.IllegalArgumentException",
  };

  private static int wrong = 0;

  public static void main(String[] args) {
    Class<ConvexDesk> desk = ConvexDesk.class;
    TreeSet<String> due = new TreeSet<>();
    for (String member : FACE) {
      due.add(member);
    }
    TreeSet<String> names = new TreeSet<>();
    TreeSet<String> found = new TreeSet<>();
    for (Constructor<?> made : desk.getDeclaredConstructors()) {
      found.add(made.toString());
    }
    for (Method method : desk.getDeclaredMethods()) {
      if (!Modifier.isPrivate(method.getModifiers())) {
        found.add(method.toString());
        names.add(method.getName());
      }
    }
    must(found.equals(due), "the face is " + found);
    must(Modifier.isFinal(desk.getModifiers()), "the class is not final");
    for (Method method : desk.getDeclaredMethods()) {
      boolean hidden = Modifier.isPrivate(method.getModifiers());
      must(!hidden || !names.contains(method.getName()), "private " + method.getName());
    }
    fields(desk);
    for (Class<?> inside : desk.getDeclaredClasses()) {
      int modifiers = inside.getModifiers();
      must(Modifier.isPrivate(modifiers) && Modifier.isStatic(modifiers), "class " + inside);
      fields(inside);
    }
    System.out.println(wrong == 0 ? "the face is as due" : wrong + " things are not as due");
    if (wrong != 0) {
      System.exit(1);
    }
  }

  private static void fields(Class<?> of) {
    for (Field field : of.getDeclaredFields()) {
      int modifiers = field.getModifiers();
      must(!Modifier.isPublic(modifiers) && !Modifier.isProtected(modifiers), "field " + field);
      must(of != ConvexDesk.class || Modifier.isPrivate(modifiers), "field " + field);
      must(!Modifier.isStatic(modifiers) || Modifier.isFinal(modifiers), "field " + field);
    }
  }

  private static void must(boolean holds, String what) {
    if (!holds) {
      wrong++;
      System.out.println("not as due: " + what);
    }
  }
}
