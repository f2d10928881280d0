import java.util.Arrays;

/** What the tests share: calls in short, sets that many of them need, and what is due. */
abstract class Checks {
  static final String INDEX = "IndexOutOfBoundsException";
  static final String ARGUMENT = "IllegalArgumentException";
  static final String STATE = "IllegalStateException";
  static final String LARGE = "ArithmeticException";
  static final String RICH = STATE;
  static final String NOT_YET = "UnsupportedOperationException";

  static final int[] WRONG_SLOTS = {-1, 4, Integer.MIN_VALUE, Integer.MAX_VALUE};

  private static int wrong = 0;
  private static String part = "";

  interface Call {
    Object answer();
  }

  interface Steps {
    void on(ConvexDesk x);
  }

  interface Act {
    Object on(ConvexDesk x);
  }

  // ---------------------------------------------------------------- what is due

  /** Tells which part of the document the checks that follow are about. */
  static void about(String promise) {
    part = promise;
  }

  static void finish() {
    System.out.println(wrong == 0 ? "all answers are as due" : wrong + " answers are not as due");
    if (wrong != 0) {
      System.exit(1);
    }
  }

  static void due(String what, Call call, Object want) {
    String got = answerOf(call);
    if (!String.valueOf(want).equals(got)) {
      wrong++;
      System.out.println(part + ": " + what + ": " + got + ", due is " + want);
    }
  }

  static void dueRows(ConvexDesk x, int slot, int kind, int... want) {
    String rows = Arrays.toString(want);
    due("rows of kind " + kind, () -> Arrays.toString(rowsOf(x, slot, kind)), rows);
  }

  static void dueEmpty(ConvexDesk x, int slot) {
    due("empty", () -> x.dimension(slot), -1);
    for (int kind = 0; kind < 5; kind++) {
      final int of = kind;
      due("no rows of kind " + kind, () -> x.rows(slot, of), 0);
      due("no row of kind " + kind, () -> x.row(slot, of, 0, 0), INDEX);
    }
  }

  static void duePlane(ConvexDesk x, int slot) {
    due("plane", () -> x.dimension(slot), 2);
    dueRows(x, slot, 0);
    dueRows(x, slot, 1);
    dueRows(x, slot, 2, 0, 1, 0, 0, 0, 1);
    dueRows(x, slot, 3);
    dueRows(x, slot, 4, 1, 0, 0);
  }

  /** The call throws, and then the desk cannot be told from a twin that never made it. */
  static void refused(String what, String exception, Steps before, Act call) {
    ConvexDesk x = new ConvexDesk();
    before.on(x);
    ConvexDesk twin = new ConvexDesk();
    before.on(twin);
    due(what, () -> call.on(x), exception);
    due(what + ", all stays as it was", () -> stateOf(x), stateOf(twin));
  }

  // ---------------------------------------------------------------- all that a desk can tell

  private static String answerOf(Call call) {
    try {
      return String.valueOf(call.answer());
    } catch (RuntimeException e) {
      // The machine's own exception for it is of the class that is due for a set too large.
      boolean divided = "/ by zero".equals(e.getMessage());
      return divided ? "a division by 0" : e.getClass().getSimpleName();
    }
  }

  private static int[] rowsOf(ConvexDesk x, int slot, int kind) {
    int[] got = new int[3 * x.rows(slot, kind)];
    for (int i = 0; i < got.length; i++) {
      got[i] = x.row(slot, kind, i / 3, i % 3);
    }
    return got;
  }

  static String setOf(ConvexDesk x, int slot) {
    StringBuilder told = new StringBuilder(" set " + x.dimension(slot));
    for (int kind = 0; kind < 5; kind++) {
      told.append(Arrays.toString(rowsOf(x, slot, kind)));
    }
    return told.toString();
  }

  private static String stateOf(ConvexDesk x) {
    StringBuilder told = new StringBuilder();
    for (int slot = 0; slot < 4; slot++) {
      told.append(setOf(x, slot));
    }
    told.append(" greatest ").append(answerOf(() -> x.greatest(0)));
    told.append(" over ").append(answerOf(() -> x.greatest(1)));
    return told.append(numbersOf(x)).toString();
  }

  /** Numbers are seen only by what they do: three as an equality, six as a map of the sets. */
  private static String numbersOf(ConvexDesk x) {
    StringBuilder told = new StringBuilder(" numbers");
    x.set(0, true);
    told.append(' ').append(answerOf(() -> x.constrain(0, true))).append(setOf(x, 0));
    String next = answerOf(() -> x.say(1));
    told.append(' ').append(next);
    int there = next.equals(STATE) ? 6 : Integer.parseInt(next);
    for (; there != 3 && there < 6; there++) {
      x.say(1);
    }
    if (there == 3) {
      x.set(0, true);
      return told.append(answerOf(() -> x.constrain(0, true))).append(setOf(x, 0)).toString();
    }
    for (int slot = 3; slot >= 0; slot--) {
      final int of = slot;
      told.append(' ').append(answerOf(() -> x.map(of, false, of))).append(setOf(x, slot));
    }
    return told.toString();
  }

  // ---------------------------------------------------------------- calls in short

  static void tell(ConvexDesk x, int... numbers) {
    for (int number : numbers) {
      x.say(number);
    }
  }

  /** So many numbers, whatever they are. */
  static void tellMany(ConvexDesk x, int count) {
    for (int i = 0; i < count; i++) {
      x.say(i + 1);
    }
  }

  static Object set(ConvexDesk x, int slot, boolean plane) {
    x.set(slot, plane);
    return "done";
  }

  static Object hush(ConvexDesk x) {
    x.hush();
    return "done";
  }

  static int cut(ConvexDesk x, int slot, boolean equality, int c, int a, int b) {
    tell(x, c, a, b);
    return x.constrain(slot, equality);
  }

  static int add(ConvexDesk x, int slot, boolean both, int g, int atX, int atY) {
    tell(x, g, atX, atY);
    return x.generate(slot, both);
  }

  static int move(ConvexDesk x, int from, boolean back, int to, int... six) {
    tell(x, six);
    return x.map(from, back, to);
  }

  static int top(ConvexDesk x, int slot, int a, int b) {
    tell(x, a, b);
    return x.maximum(slot);
  }

  static boolean in(ConvexDesk x, int slot, int g, int atX, int atY) {
    tell(x, g, atX, atY);
    return x.has(slot);
  }

  // ---------------------------------------------------------------- sets that many tests need

  static void box(ConvexDesk x, int slot, int left, int low, int right, int high) {
    x.set(slot, true);
    cut(x, slot, false, -left, 1, 0);
    cut(x, slot, false, right, -1, 0);
    cut(x, slot, false, -low, 0, 1);
    cut(x, slot, false, high, 0, -1);
  }

  /** The slot's set becomes the hull of whole points, told as x, y, x, y .. */
  static void hull(ConvexDesk x, int slot, int... points) {
    x.set(slot, false);
    for (int i = 0; i + 1 < points.length; i += 2) {
      add(x, slot, false, 1, points[i], points[i + 1]);
    }
  }

  /** A polygon of twelve sides with twelve whole corners. */
  static void rich(ConvexDesk x, int slot) {
    int[][] sides = {{2, 1}, {1, 1}, {1, 2}, {-1, 2}, {-1, 1}, {-2, 1}};
    x.set(slot, false);
    int atX = -1;
    int atY = -4;
    for (int i = 0; i < 12; i++) {
      add(x, slot, false, 1, atX, atY);
      atX += i < 6 ? sides[i][0] : -sides[i - 6][0];
      atY += i < 6 ? sides[i][1] : -sides[i - 6][1];
    }
  }

  /** A bowl of ten corners and eleven sides, open above between two rays. */
  static void bowl(ConvexDesk x, int slot) {
    int[] points = {0, 0, 3, 1, 5, 2, 6, 3, 7, 5, 8, 8, -3, 1, -5, 2, -6, 3, -7, 5};
    x.set(slot, false);
    add(x, slot, false, 1, points[0], points[1]);
    add(x, slot, false, 0, -1, 4);
    add(x, slot, false, 0, 1, 4);
    for (int i = 2; i < points.length; i += 2) {
      add(x, slot, false, 1, points[i], points[i + 1]);
    }
  }

  /** A point, a box and a line in slots 0 to 2, nothing in slot 3, and 4 as the greatest value. */
  static void someSets(ConvexDesk x) {
    hull(x, 0, 3, 2);
    box(x, 1, 0, 0, 2, 1);
    x.set(2, true);
    cut(x, 2, true, 1, 2, 3);
    top(x, 1, 1, 2);
  }
}
