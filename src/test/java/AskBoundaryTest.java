/** Each sentence of promises 9 to 15, of calls that ask, that names a boundary case. */
public final class AskBoundaryTest extends Checks {
  public static void main(String[] args) {
    maximumOfNothing();
    maximumWithoutBound();
    maximumGreatest();
    maximumNoSlot();
    maximumNotTwo();
    greatestInLowestTerms();
    greatestOfNoneYet();
    greatestOfNotTwo();
    greatestAfterOneThatThrew();
    greatestAfterTheSetChanged();
    greatestOfNeither();
    hasOnTheEdge();
    hasOfNothing();
    hasNoSlot();
    hasNotThree();
    hasNoPoint();
    includesNothing();
    includesOnTheEdge();
    includesNoSlot();
    dimensionOfEach();
    dimensionNoSlot();
    rowsOfEach();
    rowsNoSlot();
    rowsNoKind();
    rowOfEach();
    rowNoSlot();
    rowNoNumber();
    rowBelowZero();
    rowNoRow();
    rowNoKind();
    rowOrderOfExceptions();
    finish();
  }

  /** The plane, a line, a point, and nothing in slots 0 to 3. */
  private static void fourSets(ConvexDesk x) {
    x.set(0, true);
    x.set(1, true);
    cut(x, 1, true, -3, 2, 1);
    hull(x, 2, 4, -5);
    x.set(3, false);
  }

  private static ConvexDesk fourSets() {
    ConvexDesk x = new ConvexDesk();
    fourSets(x);
    return x;
  }

  private static void dueGreatest(ConvexDesk x, int numerator, int denominator) {
    due("numerator", () -> x.greatest(0), numerator);
    due("denominator", () -> x.greatest(1), denominator);
  }

  // ---------------------------------------------------------------- promise 9

  private static void maximumOfNothing() {
    about("promise 9: 0 the set is empty");
    ConvexDesk x = fourSets();
    due("new", () -> top(x, 3, 1, 1), 0);
    due("by 0, 0", () -> top(x, 3, 0, 0), 0);
    cut(x, 2, false, -1, 0, 1);
    due("cut away", () -> top(x, 2, 0, 0), 0);
  }

  private static void maximumWithoutBound() {
    about("promise 9: 1 there is no bound above");
    ConvexDesk x = fourSets();
    due("plane", () -> top(x, 0, 0, 1), 1);
    due("plane", () -> top(x, 0, -1, 0), 1);
    due("line", () -> top(x, 1, 1, 0), 1);
    due("line, the other way", () -> top(x, 1, -1, 0), 1);
    add(x, 2, false, 0, -1, 2);
    due("along a ray", () -> top(x, 2, -1, 0), 1);
    due("beside a ray", () -> top(x, 2, 3, 2), 1);
    add(x, 2, false, 0, 0, -1);
    due("the first of two rays", () -> top(x, 2, -1, 0), 1);
    due("the second of two rays", () -> top(x, 2, 0, -1), 1);
  }

  private static void maximumGreatest() {
    about("promise 9: 2 there is a greatest value");
    ConvexDesk x = fourSets();
    due("plane, 0", () -> top(x, 0, 0, 0), 2);
    dueGreatest(x, 0, 1);
    due("across a line", () -> top(x, 1, 30, 15), 2);
    dueGreatest(x, 45, 1);
    due("across a line, below", () -> top(x, 1, -30, -15), 2);
    dueGreatest(x, -45, 1);
    due("point", () -> top(x, 2, -30, -30), 2);
    dueGreatest(x, 30, 1);
    add(x, 2, false, 0, -1, 2);
    due("square to a ray", () -> top(x, 2, 2, 1), 2);
    dueGreatest(x, 3, 1);
    due("against a ray", () -> top(x, 2, 1, -1), 2);
    dueGreatest(x, 9, 1);
    hull(x, 3, 30, 30, -30, -30);
    due("the largest", () -> top(x, 3, 30, 30), 2);
    dueGreatest(x, 1800, 1);
    hull(x, 3, -30, -30);
    due("the least", () -> top(x, 3, 30, 30), 2);
    dueGreatest(x, -1800, 1);
  }

  private static void maximumNoSlot() {
    about("promise 9: there is no such slot");
    for (int slot : WRONG_SLOTS) {
      refused("two", INDEX, x -> { someSets(x); tell(x, 1, 2); }, x -> x.maximum(slot));
      refused("none", INDEX, Checks::someSets, x -> x.maximum(slot));
    }
  }

  private static void maximumNotTwo() {
    about("promise 9: there are not two numbers");
    for (int many : new int[] {0, 1, 3, 4, 5, 6}) {
      Steps before = x -> { someSets(x); tellMany(x, many); };
      refused(many + " numbers", ARGUMENT, before, x -> x.maximum(1));
      refused(many + " numbers on nothing", ARGUMENT, before, x -> x.maximum(3));
    }
  }

  // ---------------------------------------------------------------- promise 10

  private static void greatestInLowestTerms() {
    about("promise 10: in lowest terms, denominator above 0");
    ConvexDesk x = new ConvexDesk();
    add(x, 0, false, 12, 5, -7);
    dueTop(x, 0, 3, 0, 5, 4);
    dueTop(x, 0, 0, 4, -7, 3);
    dueTop(x, 0, -24, 0, -10, 1);
    dueTop(x, 0, 7, 5, 0, 1);
    dueTop(x, 0, 0, 0, 0, 1);
    dueTop(x, 0, 1, 1, -1, 6);
    dueTop(x, 0, -1, 0, -5, 12);
    dueTop(x, 0, 0, -1, 7, 12);
    add(x, 1, false, 30, 29, -29);
    dueTop(x, 1, 30, 0, 29, 1);
    dueTop(x, 1, 1, 0, 29, 30);
    dueTop(x, 1, 29, -30, 1711, 30);
  }

  private static void dueTop(ConvexDesk x, int slot, int a, int b, int numerator, int denominator) {
    due("maximum by " + a + ", " + b, () -> top(x, slot, a, b), 2);
    dueGreatest(x, numerator, denominator);
  }

  private static void greatestOfNoneYet() {
    about("promise 10: no maximum() has answered");
    refused("new", STATE, x -> { }, x -> x.greatest(0));
    refused("sets alone", STATE, AskBoundaryTest::fourSets, x -> x.greatest(1));
    ConvexDesk x = fourSets();
    due("one that throws", () -> x.maximum(2), ARGUMENT);
    due("is none", () -> x.greatest(0), STATE);
    due("one that throws", () -> x.maximum(4), INDEX);
    due("is none", () -> x.greatest(1), STATE);
  }

  private static void greatestOfNotTwo() {
    about("promise 10: the latest maximum() that answered did not answer 2");
    for (int i = 0; i < 2; i++) {
      final int of = i;
      refused("0 first", STATE, x -> { fourSets(x); top(x, 3, 1, 1); }, x -> x.greatest(of));
      refused("1 first", STATE, x -> { fourSets(x); top(x, 0, 1, 1); }, x -> x.greatest(of));
      Steps toNothing = x -> { fourSets(x); top(x, 2, 1, 1); top(x, 3, 1, 1); };
      refused("2, then 0", STATE, toNothing, x -> x.greatest(of));
      Steps toNoBound = x -> { fourSets(x); top(x, 2, 1, 1); top(x, 0, 1, 1); };
      refused("2, then 1", STATE, toNoBound, x -> x.greatest(of));
    }
    ConvexDesk x = fourSets();
    top(x, 3, 1, 1);
    top(x, 0, 1, 1);
    due("0, 1, then 2", () -> top(x, 2, 1, 1), 2);
    dueGreatest(x, -1, 1);
  }

  private static void greatestAfterOneThatThrew() {
    about("promise 10: a maximum() that threw has not answered");
    ConvexDesk x = fourSets();
    top(x, 2, 2, 0);
    due("numbers", () -> x.maximum(3), ARGUMENT);
    dueGreatest(x, 8, 1);
    tell(x, 1, 1);
    due("slot", () -> x.maximum(4), INDEX);
    dueGreatest(x, 8, 1);
    x.hush();
    top(x, 0, 1, 0);
    due("numbers", () -> x.maximum(2), ARGUMENT);
    due("the one before answered 1", () -> x.greatest(0), STATE);
  }

  private static void greatestAfterTheSetChanged() {
    about("promise 10: the latest greatest value, whatever came after it");
    ConvexDesk x = fourSets();
    top(x, 2, 2, 0);
    x.set(2, true);
    x.set(0, false);
    tell(x, 1, 2);
    x.combine(1, 0, 1, 2);
    x.hush();
    cut(x, 1, false, 1, 1, 1);
    dueGreatest(x, 8, 1);
    dueGreatest(x, 8, 1);
  }

  private static void greatestOfNeither() {
    about("promise 10: i is another one");
    Steps before = x -> { fourSets(x); top(x, 2, 1, 1); };
    for (int i : new int[] {-1, 2, 3, Integer.MIN_VALUE, Integer.MAX_VALUE}) {
      refused("i is " + i, INDEX, before, x -> x.greatest(i));
      refused("none yet, and i is " + i, STATE, x -> { }, x -> x.greatest(i));
      refused("nothing, and i is " + i, STATE, x -> top(x, 0, 1, 1), x -> x.greatest(i));
    }
  }

  // ---------------------------------------------------------------- promise 11

  private static void hasOnTheEdge() {
    about("promise 11: whether a point is in the set");
    ConvexDesk x = fourSets();
    due("plane", () -> in(x, 0, 1, 30, -30), true);
    due("on a line", () -> in(x, 1, 2, 3, 0), true);
    due("just above a line", () -> in(x, 1, 30, 29, 3), false);
    due("just below a line", () -> in(x, 1, 30, 30, 29), false);
    due("the point", () -> in(x, 2, 1, 4, -5), true);
    due("the point in other terms", () -> in(x, 2, 6, 24, -30), true);
    due("beside it", () -> in(x, 2, 1, 4, -4), false);
    due("beside it", () -> in(x, 2, 1, 3, -5), false);
    box(x, 3, 0, 0, 1, 1);
    due("corner", () -> in(x, 3, 30, 30, 30), true);
    due("side", () -> in(x, 3, 30, 0, 17), true);
    due("within", () -> in(x, 3, 30, 1, 29), true);
    due("left of it", () -> in(x, 3, 30, -1, 15), false);
    due("right of it", () -> in(x, 3, 29, 30, 15), false);
    due("below it", () -> in(x, 3, 30, 15, -1), false);
    due("above it", () -> in(x, 3, 29, 15, 30), false);
  }

  private static void hasOfNothing() {
    about("promise 11: an empty set has no point");
    ConvexDesk x = fourSets();
    due("new", () -> in(x, 3, 1, 0, 0), false);
    cut(x, 2, false, -1, 0, 0);
    due("cut away", () -> in(x, 2, 1, 4, -5), false);
    x.set(0, false);
    due("set empty", () -> in(x, 0, 30, 30, 30), false);
  }

  private static void hasNoSlot() {
    about("promise 11: there is no such slot");
    for (int slot : WRONG_SLOTS) {
      refused("point", INDEX, x -> { someSets(x); tell(x, 1, 2, 3); }, x -> x.has(slot));
      refused("no numbers", INDEX, Checks::someSets, x -> x.has(slot));
    }
  }

  private static void hasNotThree() {
    about("promise 11: there are not three numbers");
    for (int many : new int[] {0, 1, 2, 4, 5, 6}) {
      Steps before = x -> { someSets(x); tellMany(x, many); };
      refused(many + " numbers", ARGUMENT, before, x -> x.has(1));
      refused(many + " numbers on nothing", ARGUMENT, before, x -> x.has(3));
    }
  }

  private static void hasNoPoint() {
    about("promise 11: g is not above 0");
    for (int g : new int[] {0, -1, -30}) {
      Steps before = x -> { someSets(x); tell(x, g, 1, 2); };
      refused("g is " + g, ARGUMENT, before, x -> x.has(2));
      refused("g is " + g + " on nothing", ARGUMENT, before, x -> x.has(3));
    }
    due("g is 1", () -> in(fourSets(), 2, 1, 4, -5), true);
  }

  // ---------------------------------------------------------------- promise 12

  private static void includesNothing() {
    about("promise 12: empty sets on either side");
    ConvexDesk x = fourSets();
    for (int slot = 0; slot < 4; slot++) {
      final int at = slot;
      due(slot + " has all of nothing", () -> x.includes(at, 3), true);
      due("nothing has all of " + slot, () -> x.includes(3, at), slot == 3);
    }
    x.set(0, false);
    due("another nothing", () -> x.includes(0, 3), true);
    due("another nothing", () -> x.includes(3, 0), true);
  }

  private static void includesOnTheEdge() {
    about("promise 12: whether all points of slot other are in the set of slot one");
    ConvexDesk x = fourSets();
    for (int slot = 0; slot < 3; slot++) {
      final int at = slot;
      due("itself", () -> x.includes(at, at), true);
      due("the plane has it", () -> x.includes(0, at), true);
      due("the plane is not in it", () -> x.includes(at, 0), slot == 0);
    }
    due("4, -5 is on 2 x + y = 3", () -> x.includes(1, 2), true);
    due("but not all of it", () -> x.includes(2, 1), false);
    box(x, 0, 0, 0, 2, 1);
    box(x, 3, 0, 0, 1, 1);
    due("shares three sides", () -> x.includes(0, 3), true);
    due("is the smaller", () -> x.includes(3, 0), false);
    add(x, 3, false, 30, -1, 15);
    due("one corner out", () -> x.includes(0, 3), false);
    hull(x, 2, 0, 0);
    add(x, 2, false, 0, 1, 0);
    x.set(3, true);
    cut(x, 3, false, 0, 0, 1);
    due("a ray along the edge", () -> x.includes(3, 2), true);
    cut(x, 3, false, 30, -1, 0);
    due("a ray that leaves it", () -> x.includes(3, 2), false);
    hull(x, 2, 0, 0);
    add(x, 2, true, 0, 1, 0);
    x.set(3, true);
    cut(x, 3, false, 30, 1, 0);
    due("a line, of which one half leaves it", () -> x.includes(3, 2), false);
    x.set(3, true);
    cut(x, 3, false, 30, -1, 0);
    due("a line, of which the other half leaves it", () -> x.includes(3, 2), false);
  }

  private static void includesNoSlot() {
    about("promise 12: there is no such slot");
    for (int slot : WRONG_SLOTS) {
      refused("one", INDEX, Checks::someSets, x -> x.includes(slot, 0));
      refused("one, of nothing", INDEX, Checks::someSets, x -> x.includes(slot, 3));
      refused("other", INDEX, Checks::someSets, x -> x.includes(0, slot));
      refused("other, in nothing", INDEX, Checks::someSets, x -> x.includes(3, slot));
    }
  }

  // ---------------------------------------------------------------- promise 13

  private static void dimensionOfEach() {
    about("promise 13: -1 if it is empty");
    ConvexDesk x = fourSets();
    int[] dues = {2, 1, 0, -1};
    for (int slot = 0; slot < 4; slot++) {
      final int at = slot;
      due("slot " + slot, () -> x.dimension(at), dues[slot]);
    }
    cut(x, 2, true, 1, 0, 0);
    due("cut away", () -> x.dimension(2), -1);
    x.set(0, false);
    due("set empty", () -> x.dimension(0), -1);
    x.combine(0, 1, 2, 1);
    due("in both, of nothing", () -> x.dimension(1), -1);
    add(x, 3, false, 1, 0, 0);
    due("a point now", () -> x.dimension(3), 0);
  }

  private static void dimensionNoSlot() {
    about("promise 13: there is no such slot");
    for (int slot : WRONG_SLOTS) {
      refused("slot " + slot, INDEX, Checks::someSets, x -> x.dimension(slot));
    }
  }

  // ---------------------------------------------------------------- promise 14

  private static void rowsOfEach() {
    about("promise 14: each kind of the plane, of a line, of a point, of an empty set");
    ConvexDesk x = fourSets();
    int[][] dues = {{0, 0, 2, 0, 1}, {1, 0, 1, 0, 1}, {2, 0, 0, 0, 1}, {0, 0, 0, 0, 0}};
    for (int slot = 0; slot < 4; slot++) {
      for (int kind = 0; kind < 5; kind++) {
        final int at = slot;
        final int of = kind;
        due("slot " + slot + ", kind " + kind, () -> x.rows(at, of), dues[slot][kind]);
      }
    }
    rich(x, 0);
    due("most inequalities", () -> x.rows(0, 1), 12);
    due("most points", () -> x.rows(0, 4), 12);
  }

  private static void rowsNoSlot() {
    about("promise 14: there is no such slot");
    for (int slot : WRONG_SLOTS) {
      for (int kind = -1; kind <= 5; kind++) {
        final int of = kind;
        refused("kind " + kind, INDEX, Checks::someSets, x -> x.rows(slot, of));
      }
    }
  }

  private static void rowsNoKind() {
    about("promise 14: there is no such kind");
    for (int kind : new int[] {-1, 5, Integer.MIN_VALUE, Integer.MAX_VALUE}) {
      refused("kind " + kind, ARGUMENT, Checks::someSets, x -> x.rows(1, kind));
      refused("kind " + kind + " of nothing", ARGUMENT, Checks::someSets, x -> x.rows(3, kind));
    }
  }

  // ---------------------------------------------------------------- promise 15

  /** A half-line has a row of every kind but a line; a line has the line. */
  private static void rowOfEach() {
    about("promise 15: number j (0 .. 2) of the i-th row of a kind");
    ConvexDesk x = fourSets();
    cut(x, 1, false, 5, 0, 1);
    int[][] halfLine = {{-3, 2, 1}, {5, 0, 1}, {}, {0, -1, 2}, {1, 4, -5}};
    for (int kind = 0; kind < 5; kind++) {
      for (int j = 0; j < halfLine[kind].length; j++) {
        final int of = kind;
        final int at = j;
        due("kind " + kind + ", " + j, () -> x.row(1, of, 0, at), halfLine[kind][j]);
      }
    }
    due("first line", () -> x.row(0, 2, 0, 1), 1);
    due("last line", () -> x.row(0, 2, 1, 2), 1);
    rich(x, 0);
    due("first inequality", () -> x.row(0, 1, 0, 0), 6);
    due("twelfth inequality", () -> x.row(0, 1, 11, 0), 10);
    due("first point", () -> x.row(0, 4, 0, 1), -5);
    due("twelfth point", () -> x.row(0, 4, 11, 1), 3);
  }

  private static void rowNoSlot() {
    about("promise 15: there is no such slot");
    for (int slot : WRONG_SLOTS) {
      for (int kind = -1; kind <= 5; kind++) {
        final int of = kind;
        refused("kind " + kind, INDEX, Checks::someSets, x -> x.row(slot, of, 0, 0));
      }
    }
  }

  private static void rowNoNumber() {
    about("promise 15: there is no such number");
    for (int j : new int[] {-1, 3, Integer.MIN_VALUE, Integer.MAX_VALUE}) {
      for (int kind = -1; kind <= 5; kind++) {
        final int of = kind;
        refused("kind " + kind + ", " + j, INDEX, Checks::someSets, x -> x.row(1, of, 0, j));
      }
    }
  }

  private static void rowBelowZero() {
    about("promise 15: i is below 0");
    for (int i : new int[] {-1, -2, Integer.MIN_VALUE}) {
      for (int kind = -1; kind <= 5; kind++) {
        final int of = kind;
        refused("kind " + kind + ", " + i, INDEX, Checks::someSets, x -> x.row(1, of, i, 0));
      }
    }
  }

  private static void rowNoRow() {
    about("promise 15: the kind has no such row");
    int[] far = {12, 1 << 30, 1431655766, Integer.MAX_VALUE};
    for (int slot = 0; slot < 4; slot++) {
      final int at = slot;
      for (int kind = 0; kind < 5; kind++) {
        final int of = kind;
        int count = fourSets().rows(slot, kind);
        refused("the next", INDEX, AskBoundaryTest::fourSets, x -> x.row(at, of, count, 0));
        for (int i : far) {
          refused("far off", INDEX, AskBoundaryTest::fourSets, x -> x.row(at, of, i, 2));
        }
      }
    }
    Steps bowl = x -> bowl(x, 0);
    refused("rays end before points", INDEX, bowl, x -> x.row(0, 3, 2, 0));
    refused("points end", INDEX, bowl, x -> x.row(0, 4, 10, 0));
    refused("inequalities end", INDEX, bowl, x -> x.row(0, 1, 11, 0));
    refused("a 13th point", INDEX, x -> rich(x, 0), x -> x.row(0, 4, 12, 0));
    refused("a 13th inequality", INDEX, x -> rich(x, 0), x -> x.row(0, 1, 12, 0));
  }

  private static void rowNoKind() {
    about("promise 15: there is no such kind");
    for (int kind : new int[] {-1, 5, Integer.MIN_VALUE, Integer.MAX_VALUE}) {
      for (int i : new int[] {0, 11, 12, Integer.MAX_VALUE}) {
        refused("kind " + kind, ARGUMENT, Checks::someSets, x -> x.row(1, kind, i, 2));
        refused("kind " + kind + ", nothing", ARGUMENT, Checks::someSets, x -> x.row(3, kind, i, 0));
      }
    }
  }

  private static void rowOrderOfExceptions() {
    about("promise 15: which exception comes first");
    refused("slot, number, i and kind", INDEX, x -> { }, x -> x.row(4, 5, -1, 3));
    refused("number, i and kind", INDEX, x -> { }, x -> x.row(0, 5, -1, 3));
    refused("number and kind", INDEX, x -> { }, x -> x.row(0, 5, 0, 3));
    refused("i below 0 and kind", INDEX, x -> { }, x -> x.row(0, 5, -1, 0));
    refused("kind alone, where no kind has a row", ARGUMENT, x -> { }, x -> x.row(0, 5, 0, 0));
    refused("no row alone", INDEX, x -> { }, x -> x.row(0, 4, 0, 0));
  }
}
