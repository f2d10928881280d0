import java.util.Arrays;

/** Each sentence of the document's section "Terms" that names a boundary case. */
public final class TermsBoundaryTest extends Checks {
  public static void main(String[] args) {
    slotsAreFour();
    numbersAreSixOfThirty();
    rowsHaveNoCommonDivisor();
    rowsByDimension();
    emptySetsHaveNoRows();
    largeEqualities();
    largeInequalities();
    largeLinesAndRays();
    largePointsByX();
    largePointsByY();
    largePointsByDivisor();
    richByPoints();
    richByRaysAndPoints();
    onTheWayNothingIsLarge();
    onTheWayNothingIsRich();
    whatThrowsLeavesAll();
    firstNamedIsThrown();
    largeComesBeforeRich();
    whatTakesTheNumbersLeavesNone();
    whatTakesNoNumbersLeavesThem();
    finish();
  }

  // ---------------------------------------------------------------- slots, numbers, rows

  private static void slotsAreFour() {
    about("terms: there are slots 0 .. 3, each with a set");
    ConvexDesk x = new ConvexDesk();
    for (int slot = 0; slot < 4; slot++) {
      final int at = slot;
      due("point", () -> add(x, at, false, 1, at, -at), 0);
    }
    for (int slot = 0; slot < 4; slot++) {
      dueRows(x, slot, 4, 1, slot, -slot);
    }
  }

  private static void numbersAreSixOfThirty() {
    about("terms: the numbers are at most six, each -30 .. 30");
    ConvexDesk x = new ConvexDesk();
    hull(x, 0, 1, 0);
    tell(x, 30, 0, -30, 0, 0);
    due("sixth", () -> x.say(0), 6);
    due("30 and -30 are what they are", () -> x.map(0, false, 1), 0);
    dueRows(x, 1, 4, 1, 30, -30);
  }

  private static void rowsHaveNoCommonDivisor() {
    about("terms: the numbers of each row have no common divisor above 1");
    ConvexDesk x = new ConvexDesk();
    x.set(0, true);
    cut(x, 0, true, -30, 20, -10);
    dueRows(x, 0, 0, -3, 2, -1);
    dueRows(x, 0, 2, 0, 1, 2);
    cut(x, 0, false, 30, 0, 30);
    dueRows(x, 0, 1, 1, 0, 1);
    x.set(1, false);
    add(x, 1, false, 30, -30, 30);
    add(x, 1, false, 0, -30, 30);
    dueRows(x, 1, 3, 0, -1, 1);
    dueRows(x, 1, 4, 1, -1, 1);
    x.set(2, false);
    add(x, 2, false, 28, 21, 0);
    dueRows(x, 2, 4, 4, 3, 0);
    dueRows(x, 2, 0, -3, 4, 0, 0, 0, 1);
  }

  private static void rowsByDimension() {
    about("terms: equalities are 2 less the dimension; lines are 2, 1 or 0");
    ConvexDesk x = new ConvexDesk();
    x.set(0, true);
    dueCounts(x, 0, 2, 0, 0, 2, 0, 1);
    cut(x, 0, false, 1, 1, 1);
    dueCounts(x, 0, 2, 0, 1, 1, 1, 1);
    cut(x, 0, false, 1, -1, -1);
    dueCounts(x, 0, 2, 0, 2, 1, 0, 2);
    cut(x, 0, true, 1, 1, 1);
    dueCounts(x, 0, 1, 1, 0, 1, 0, 1);
    cut(x, 0, false, 0, 1, 0);
    dueCounts(x, 0, 1, 1, 1, 0, 1, 1);
    cut(x, 0, false, 2, -1, 0);
    dueCounts(x, 0, 1, 1, 2, 0, 0, 2);
    cut(x, 0, false, -2, 1, 0);
    dueCounts(x, 0, 0, 2, 0, 0, 0, 1);
    box(x, 1, 0, 0, 1, 1);
    dueCounts(x, 1, 2, 0, 4, 0, 0, 4);
    add(x, 1, false, 0, 1, 1);
    dueCounts(x, 1, 2, 0, 4, 0, 1, 3);
    add(x, 1, false, 0, 1, 0);
    dueCounts(x, 1, 2, 0, 3, 0, 2, 2);
  }

  private static void dueCounts(ConvexDesk x, int slot, int dimension, int... counts) {
    due("dimension", () -> x.dimension(slot), dimension);
    for (int kind = 0; kind < 5; kind++) {
      final int of = kind;
      due("dimension " + dimension + ", kind " + kind, () -> x.rows(slot, of), counts[kind]);
    }
  }

  private static void emptySetsHaveNoRows() {
    about("terms: an empty set has no rows");
    dueEmptyAfter(x -> { });
    dueEmptyAfter(x -> { someSets(x); x.set(0, false); });
    dueEmptyAfter(x -> { box(x, 0, 0, 0, 1, 1); cut(x, 0, false, -2, 1, 0); });
    dueEmptyAfter(x -> { box(x, 0, 0, 0, 1, 1); cut(x, 0, true, 2, 1, 0); });
    dueEmptyAfter(x -> { x.set(0, true); cut(x, 0, true, 1, 0, 0); });
    dueEmptyAfter(x -> { someSets(x); x.combine(0, 0, 1, 0); });
    dueEmptyAfter(x -> { someSets(x); x.combine(1, 3, 3, 0); });
    dueEmptyAfter(x -> { someSets(x); x.combine(2, 1, 3, 0); });
    dueEmptyAfter(x -> { someSets(x); move(x, 3, false, 0, 1, 0, 0, 1, 0, 0); });
    dueEmptyAfter(x -> { someSets(x); move(x, 3, true, 0, 1, 0, 0, 1, 0, 0); });
    dueEmptyAfter(x -> { someSets(x); move(x, 1, true, 0, 0, 0, 0, 0, 3, 1); });
  }

  private static void dueEmptyAfter(Steps steps) {
    ConvexDesk x = new ConvexDesk();
    steps.on(x);
    dueEmpty(x, 0);
  }

  // ---------------------------------------------------------------- too large

  private static final String LARGE_IS = "terms: too large is a number below -30 or above 30: ";

  /** The last point of a hull is what makes it too large, and only the row told is. */
  private static void largeHull(String what, int... points) {
    int[] first = Arrays.copyOf(points, points.length - 2);
    int lastX = points[points.length - 2];
    int lastY = points[points.length - 1];
    refused(
        what,
        LARGE,
        x -> {
          hull(x, 1, first);
          tell(x, 1, lastX, lastY);
        },
        x -> x.generate(1, false));
  }

  private static void dueHull(int kind, int[] want, int... points) {
    ConvexDesk x = new ConvexDesk();
    hull(x, 0, points);
    dueRows(x, 0, kind, want);
  }

  private static void largeEqualities() {
    about(LARGE_IS + "equalities");
    dueHull(0, new int[] {-15, 30, 1}, 0, 15, 1, -15);
    largeHull("a is 31", 0, 15, 1, -16);
    dueHull(0, new int[] {-15, 1, 30}, -15, 1, 15, 0);
    largeHull("b is 31", -15, 1, 16, 0);
    dueHull(0, new int[] {15, 1, -30}, -15, 0, 15, 1);
    largeHull("b is -31", -15, 0, 16, 1);
    dueLineThrough("c is 30", 30, 0, -15);
    refusedLineThrough("c is 32", 0, -16);
    dueLineThrough("c is -30", -30, 0, 15);
    refusedLineThrough("c is -32", 0, 16);
  }

  /** The line has direction (2, -3): the c of 3 x + 2 y + c = 0 can be larger than its point. */
  private static void dueLineThrough(String what, int c, int atX, int atY) {
    ConvexDesk x = new ConvexDesk();
    hull(x, 0, atX, atY);
    due(what, () -> add(x, 0, true, 0, 2, -3), 1);
    dueRows(x, 0, 0, c, 3, 2);
  }

  private static void refusedLineThrough(String what, int atX, int atY) {
    refused(
        what,
        LARGE,
        x -> {
          hull(x, 0, atX, atY);
          tell(x, 0, 2, -3);
        },
        x -> x.generate(0, true));
  }

  private static void largeInequalities() {
    about(LARGE_IS + "inequalities");
    dueHull(1, new int[] {30, -1, -1, -14, 0, 1, -15, 1, 0}, 15, 15, 16, 14, 15, 14);
    largeHull("c is 31", 15, 15, 15, 16, 16, 15);
    dueHull(1, new int[] {15, -1, 0, 16, 0, -1, -30, 1, 1}, 15, 15, 14, 16, 15, 16);
    largeHull("c is -31", 16, 16, 15, 16, 16, 15);
    dueHull(1, new int[] {15, -30, -1, 15, 0, 1, 0, 1, 0}, 0, 15, 0, -15, 1, -15);
    largeHull("a is -31", 0, 15, 0, -16, 1, -16);
    dueHull(1, new int[] {1, -1, 0, 15, 0, -1, -15, 30, 1}, 0, 15, 1, 15, 1, -15);
    largeHull("a is 31", 0, 15, 1, 15, 1, -16);
    dueHull(1, new int[] {15, -1, -30, 0, 0, 1, 15, 1, 0}, 15, 0, -15, 0, -15, 1);
    largeHull("b is -31", 15, 0, -16, 0, -16, 1);
    dueHull(1, new int[] {15, -1, 0, 1, 0, -1, -15, 1, 30}, 15, 0, 15, 1, -15, 1);
    largeHull("b is 31", 15, 0, 15, 1, -16, 1);
  }

  private static void largeLinesAndRays() {
    about(LARGE_IS + "lines and rays");
    ConvexDesk x = new ConvexDesk();
    hull(x, 0, 0, 0);
    add(x, 0, true, 0, 1, -30);
    dueRows(x, 0, 2, 0, 1, -30);
    hull(x, 1, 0, 0);
    add(x, 1, false, 0, -30, 1);
    dueRows(x, 1, 3, 0, -30, 1);
    add(x, 1, false, 0, 1, 30);
    dueRows(x, 1, 3, 0, -30, 1, 0, 1, 30);
    refusedDirection("a line's y is -31", true, 1, -30, 1, 0, -1, 1);
    refusedDirection("a line's x is 31", true, 30, 1, 1, 1, 0, 1);
    refusedDirection("a ray's x is 31", false, 30, 1, 1, 1, 0, 1);
    refusedDirection("a ray's x is -31", false, -30, 1, 1, -1, 0, 1);
    refusedDirection("a ray's y is 31", false, 1, 30, 1, 0, 1, 1);
    refusedDirection("a ray's y is -31", false, 1, -30, 1, 0, -1, 1);
  }

  private static void refusedDirection(
      String what, boolean both, int atX, int atY, int... four) {
    refused(
        what,
        LARGE,
        x -> {
          hull(x, 0, 0, 0);
          add(x, 0, both, 0, atX, atY);
          tell(x, four);
          tell(x, 0, 0);
        },
        x -> x.map(0, false, 0));
  }

  /** Slot 1 is a corner of two sides, of which the second is what makes its point too large. */
  private static void largeCorner(String what, int[] one, int[] other) {
    refused(
        what,
        LARGE,
        x -> {
          x.set(1, true);
          cut(x, 1, false, one[0], one[1], one[2]);
          tell(x, other);
        },
        x -> x.constrain(1, false));
  }

  private static void dueCorner(int[] point, int[] one, int[] other) {
    ConvexDesk x = new ConvexDesk();
    x.set(0, true);
    cut(x, 0, false, one[0], one[1], one[2]);
    cut(x, 0, false, other[0], other[1], other[2]);
    dueRows(x, 0, 4, point);
  }

  private static void largePointsByX() {
    about(LARGE_IS + "points, x");
    dueHull(4, new int[] {1, 30, 0}, 30, 0);
    dueHull(4, new int[] {1, -30, 0}, -30, 0);
    dueCorner(new int[] {2, 29, 1}, new int[] {-15, 1, 1}, new int[] {-14, 1, -1});
    largeCorner("31 / 2", new int[] {-16, 1, 1}, new int[] {-15, 1, -1});
    dueCorner(new int[] {2, -29, -1}, new int[] {-15, -1, -1}, new int[] {-14, -1, 1});
    largeCorner("-31 / 2", new int[] {-16, -1, -1}, new int[] {-15, -1, 1});
    dueCorner(new int[] {1, 30, 0}, new int[] {-30, 1, 1}, new int[] {-30, 1, -1});
  }

  private static void largePointsByY() {
    about(LARGE_IS + "points, y");
    dueHull(4, new int[] {1, 0, 30}, 0, 30);
    dueHull(4, new int[] {1, 0, -30}, 0, -30);
    dueCorner(new int[] {2, 1, 29}, new int[] {-15, 1, 1}, new int[] {-14, -1, 1});
    largeCorner("31 / 2", new int[] {-16, 1, 1}, new int[] {-15, -1, 1});
    dueCorner(new int[] {2, -1, -29}, new int[] {-15, -1, -1}, new int[] {-14, 1, -1});
    largeCorner("-31 / 2", new int[] {-16, -1, -1}, new int[] {-15, 1, -1});
    dueCorner(new int[] {1, 0, 30}, new int[] {-30, 1, 1}, new int[] {-30, -1, 1});
  }

  private static void largePointsByDivisor() {
    about(LARGE_IS + "points, g");
    dueCorner(new int[] {30, 1, 25}, new int[] {-1, 5, 1}, new int[] {-4, -5, 5});
    largeCorner("g is 31", new int[] {-1, 5, 1}, new int[] {0, -1, 6});
  }

  // ---------------------------------------------------------------- too rich

  private static void richByPoints() {
    about("terms: too rich is more than 12 inequalities, or rays and points: points");
    ConvexDesk x = new ConvexDesk();
    rich(x, 0);
    due("12 inequalities", () -> x.rows(0, 1), 12);
    due("12 points", () -> x.rows(0, 4), 12);
    refused(
        "13 points",
        RICH,
        y -> {
          rich(y, 0);
          tell(y, 4, 0, -15);
        },
        y -> y.generate(0, false));
  }

  private static void richByRaysAndPoints() {
    about("terms: too rich is more than 12 inequalities, or rays and points: rays and points");
    ConvexDesk x = new ConvexDesk();
    bowl(x, 0);
    due("2 rays", () -> x.rows(0, 3), 2);
    due("10 points", () -> x.rows(0, 4), 10);
    refused(
        "11 points and 2 rays, with 12 inequalities",
        RICH,
        y -> {
          bowl(y, 0);
          tell(y, 1, -8, 8);
        },
        y -> y.generate(0, false));
    refused(
        "12 inequalities, but 11 points and 2 rays",
        RICH,
        y -> {
          bowl(y, 0);
          tell(y, -1, 0, 2);
        },
        y -> y.constrain(0, false));
  }

  // ---------------------------------------------------------------- on the way

  private static void onTheWayNothingIsLarge() {
    about("terms: what is made on the way is never too large");
    ConvexDesk x = new ConvexDesk();
    x.set(0, true);
    cut(x, 0, false, -1, 5, 1);
    x.set(1, true);
    cut(x, 1, false, 0, -1, 6);
    cut(x, 1, false, -1, 1, 0);
    due("a corner with g = 31 that is cut off", () -> x.combine(0, 0, 1, 2), 2);
    dueRows(x, 2, 4, 6, 6, 1);
    due("the other way round", () -> x.combine(0, 1, 0, 2), 2);
    dueRows(x, 2, 4, 6, 6, 1);
    x.set(0, false);
    add(x, 0, false, 30, 1, -1);
    x.set(1, false);
    add(x, 1, false, 30, 29, -29);
    due("900 / 900", () -> x.combine(2, 0, 1, 2), 0);
    dueRows(x, 2, 4, 1, 1, -1);
    hull(x, 0, 0, 0);
    add(x, 0, false, 0, 30, 29);
    due("1770 : 1770", () -> move(x, 0, false, 0, 30, 30, 30, 30, 0, 0), 1);
    dueRows(x, 0, 3, 0, 1, 1);
    x.set(0, true);
    cut(x, 0, false, -30, 30, 0);
    due("30 x + 30 y is not below 30", () -> move(x, 0, true, 0, 30, 30, 0, 0, -29, 0), 2);
    dueRows(x, 0, 1, -1, 1, 1);
    hull(x, 0, 0, 15);
    hull(x, 1, 1, -16);
    add(x, 1, true, 0, 1, 0);
    due("31 x + y = 15 within a strip", () -> x.combine(1, 0, 1, 2), 2);
    dueRows(x, 2, 1, 15, 0, -1, 16, 0, 1);
  }

  private static void onTheWayNothingIsRich() {
    about("terms: what is made on the way is never too rich");
    ConvexDesk x = new ConvexDesk();
    rich(x, 0);
    x.set(1, true);
    cut(x, 1, false, 9, 2, 0);
    cut(x, 1, true, 0, 0, 1);
    due("a thirteenth side, and then but a way", () -> x.combine(0, 0, 1, 2), 1);
    due("the other way round", () -> x.combine(0, 1, 0, 2), 1);
    dueRows(x, 2, 1, 3, -1, 0, 9, 2, 0);
    hull(x, 1, -9, -9, 19, -9, -9, 19);
    due("12 corners within a triangle", () -> x.combine(1, 0, 1, 2), 2);
    due("the other way round", () -> x.combine(1, 1, 0, 3), 2);
    dueRows(x, 2, 4, 1, -9, -9, 1, -9, 19, 1, 19, -9);
    dueRows(x, 3, 4, 1, -9, -9, 1, -9, 19, 1, 19, -9);
    due("twice itself", () -> x.combine(2, 0, 0, 2), 2);
    due("has 12 corners", () -> x.rows(2, 4), 12);
    due("flat", () -> move(x, 0, false, 2, 1, 0, 0, 0, 0, 0), 1);
    due("has 2", () -> x.rows(2, 4), 2);
  }

  // ---------------------------------------------------------------- throws

  private static void whatThrowsLeavesAll() {
    about("terms: what throws leaves all as it was");
    refused("say", ARGUMENT, x -> { someSets(x); tell(x, 1, 2, 3); }, x -> x.say(31));
    refused("say", STATE, x -> { someSets(x); tellMany(x, 6); }, x -> x.say(1));
    refused("set", INDEX, x -> { someSets(x); tell(x, 1, 2, 3); }, x -> set(x, 4, true));
    refused("constrain", INDEX, x -> { someSets(x); tell(x, 1, 2, 3); }, x -> x.constrain(4, true));
    refused("generate", INDEX, x -> { someSets(x); tell(x, 1, 2, 3); }, x -> x.generate(4, true));
    refused("combine", INDEX, x -> { someSets(x); tell(x, 1, 2); }, x -> x.combine(0, 0, 1, 4));
    refused("combine", ARGUMENT, x -> { someSets(x); tell(x, 1, 2); }, x -> x.combine(3, 0, 1, 2));
    refused("map", INDEX, x -> { someSets(x); tellMany(x, 6); }, x -> x.map(0, true, 4));
    refused("maximum", INDEX, x -> { someSets(x); tell(x, 3, 2); }, x -> x.maximum(4));
    refused("maximum", ARGUMENT, x -> { someSets(x); tell(x, 3, 2, 1); }, x -> x.maximum(0));
    refused("greatest", INDEX, x -> { someSets(x); tell(x, 3, 2, 1); }, x -> x.greatest(2));
    refused("greatest", STATE, x -> tell(x, 3, 2, 1), x -> x.greatest(0));
    refused("has", INDEX, x -> { someSets(x); tell(x, 3, 2, 1); }, x -> x.has(4));
    refused("has", ARGUMENT, x -> { someSets(x); tell(x, -3, 2, 1); }, x -> x.has(0));
    refused("includes", INDEX, x -> { someSets(x); tell(x, 3, 2, 1); }, x -> x.includes(0, 4));
    refused("dimension", INDEX, x -> { someSets(x); tell(x, 3, 2, 1); }, x -> x.dimension(4));
    refused("rows", INDEX, x -> { someSets(x); tell(x, 3, 2, 1); }, x -> x.rows(4, 0));
    refused("rows", ARGUMENT, x -> { someSets(x); tell(x, 3, 2, 1); }, x -> x.rows(0, 5));
    refused("row", INDEX, x -> { someSets(x); tell(x, 3, 2, 1); }, x -> x.row(0, 0, 2, 0));
    refused("row", ARGUMENT, x -> { someSets(x); tell(x, 3, 2, 1); }, x -> x.row(0, 5, 0, 0));
  }

  private static void firstNamedIsThrown() {
    about("terms: the first one named that applies is thrown");
    refused("say: argument, state", ARGUMENT, x -> tellMany(x, 6), x -> x.say(-31));
    refused("constrain: index, argument", INDEX, x -> tell(x, 1, 2), x -> x.constrain(-1, true));
    refused("generate: index, argument", INDEX, x -> tell(x, 0, 0, 0), x -> x.generate(-1, false));
    refused("generate: argument, empty", ARGUMENT, x -> tell(x, 0, 0, 0), x -> x.generate(0, true));
    refused("generate: argument, empty", ARGUMENT, x -> tell(x, -1, 1, 0), x -> x.generate(0, true));
    refused("generate: argument, empty", ARGUMENT, x -> tell(x, 0, 1), x -> x.generate(0, false));
    refused("combine: index, argument", INDEX, x -> { }, x -> x.combine(3, 0, 0, -1));
    refused("combine: index, argument", INDEX, x -> { }, x -> x.combine(-1, 4, 0, 0));
    refused("combine: index, argument", INDEX, x -> { }, x -> x.combine(-1, 0, 4, 0));
    refused("map: index, argument", INDEX, x -> tellMany(x, 5), x -> x.map(-1, true, 0));
    refused("map: index, argument", INDEX, x -> tellMany(x, 5), x -> x.map(0, false, 4));
    refused("maximum: index, argument", INDEX, x -> tellMany(x, 3), x -> x.maximum(-1));
    refused("greatest: state, index", STATE, x -> { }, x -> x.greatest(-1));
    refused("has: index, argument", INDEX, x -> tell(x, 1, 1), x -> x.has(-1));
    refused("has: index, argument", INDEX, x -> tell(x, 0, 1, 1), x -> x.has(-1));
    refused("rows: index, argument", INDEX, x -> { }, x -> x.rows(-1, -1));
    refused("row: index, argument", INDEX, x -> { }, x -> x.row(-1, -1, 0, 0));
    refused("row: index, argument", INDEX, x -> { }, x -> x.row(0, -1, 0, 3));
    refused("row: index, argument", INDEX, x -> { }, x -> x.row(0, -1, -1, 0));
  }

  private static void largeComesBeforeRich() {
    about("terms: the first one named that applies is thrown: too large and too rich");
    refused(
        "constrain",
        LARGE,
        x -> {
          rich(x, 0);
          tell(x, 29, 6, 1);
        },
        x -> x.constrain(0, false));
    refused(
        "generate",
        LARGE,
        x -> {
          rich(x, 0);
          tell(x, 11, 29, 9);
        },
        x -> x.generate(0, false));
    refused(
        "combine, in both",
        LARGE,
        x -> {
          rich(x, 0);
          x.set(1, true);
          cut(x, 1, false, 29, 6, 1);
        },
        x -> x.combine(0, 0, 1, 2));
    refused(
        "combine, the least with both",
        LARGE,
        x -> {
          rich(x, 0);
          add(x, 1, false, 11, 29, 9);
        },
        x -> x.combine(1, 1, 0, 2));
    refused(
        "combine, sums",
        LARGE,
        x -> {
          rich(x, 0);
          hull(x, 1, 0, 0, 29, 30);
        },
        x -> x.combine(2, 0, 1, 2));
  }

  // ---------------------------------------------------------------- what becomes of the numbers

  private static void whatTakesTheNumbersLeavesNone() {
    about("terms: what does not throw and takes the numbers leaves none");
    dueNone("constrain", x -> cut(x, 1, false, 1, 0, 0), 2);
    dueNone("constrain to nothing", x -> cut(x, 1, false, -3, 1, 0), -1);
    dueNone("constrain nothing", x -> cut(x, 3, true, 1, 2, 3), -1);
    dueNone("generate", x -> add(x, 1, false, 0, 1, 1), 2);
    dueNone("generate what is there", x -> add(x, 1, false, 1, 1, 1), 2);
    dueNone("generate to nothing", x -> add(x, 3, false, 1, 1, 1), 0);
    dueNone("map", x -> move(x, 1, false, 2, 1, 0, 0, 1, 0, 0), 2);
    dueNone("map back", x -> move(x, 1, true, 2, 1, 0, 0, 1, 0, 0), 2);
    dueNone("map nothing", x -> move(x, 3, false, 2, 1, 0, 0, 1, 0, 0), -1);
    dueNone("map nothing back", x -> move(x, 3, true, 2, 1, 0, 0, 1, 0, 0), -1);
    dueNone("maximum of nothing", x -> top(x, 3, 1, 0), 0);
    dueNone("maximum without bound", x -> top(x, 2, 1, 0), 1);
    dueNone("maximum", x -> top(x, 1, 1, 0), 2);
    dueNone("has", x -> in(x, 1, 1, 0, 0), true);
    dueNone("has not", x -> in(x, 1, 1, -1, 0), false);
    dueNone("has nothing", x -> in(x, 3, 1, 0, 0), false);
  }

  private static void dueNone(String what, Act act, Object answer) {
    ConvexDesk x = new ConvexDesk();
    someSets(x);
    due(what, () -> act.on(x), answer);
    due(what + ", none left", () -> x.say(5), 1);
  }

  private static void whatTakesNoNumbersLeavesThem() {
    about("terms: what takes no numbers leaves them");
    ConvexDesk x = new ConvexDesk();
    someSets(x);
    tell(x, 4, -3);
    set(x, 3, true);
    due("combine", () -> x.combine(0, 1, 3, 3), 2);
    due("greatest", () -> x.greatest(0), 4);
    due("includes", () -> x.includes(1, 3), true);
    due("dimension", () -> x.dimension(3), 2);
    due("rows", () -> x.rows(3, 4), 4);
    due("row", () -> x.row(3, 4, 3, 1), 2);
    due("two numbers are there", () -> x.maximum(1), 2);
    due("4 and -3", () -> x.greatest(0), 8);
  }
}
