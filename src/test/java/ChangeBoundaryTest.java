/** Each sentence of promises 1 to 8, of calls that change something, that names a boundary case. */
public final class ChangeBoundaryTest extends Checks {
  private static final int[] WRONG_KINDS = {-1, 3, 4, Integer.MIN_VALUE, Integer.MAX_VALUE};

  public static void main(String[] args) {
    newSetsAreEmpty();
    newHasNoNumbers();
    newHasNoGreatest();
    newSharesNothing();
    sayTellsHowMany();
    sayOutsideThirty();
    saySeventh();
    hushLeavesNone();
    setPlane();
    setEmpty();
    setNoSlot();
    constrainLeavesNothing();
    constrainNothing();
    constrainByNumberAlone();
    constrainNoSlot();
    constrainNotThree();
    constrainTooLarge();
    constrainTooRich();
    generatePointRayLine();
    generateNoSlot();
    generateNotThree();
    generateBelowZero();
    generateAllZero();
    generatePointAndBoth();
    generateNoPointToNothing();
    generateTooLarge();
    generateTooRich();
    combineBothWithNothing();
    combineHullWithNothing();
    combineSumWithNothing();
    combineInPlace();
    combineNoSlot();
    combineNoKind();
    combineTooLarge();
    combineTooRich();
    mapNothing();
    mapToOnePoint();
    mapNoSlot();
    mapNotSix();
    mapTooLarge();
    mapNeverRicher();
    finish();
  }

  // ---------------------------------------------------------------- promise 1

  private static void newSetsAreEmpty() {
    about("promise 1: all sets are empty");
    ConvexDesk x = new ConvexDesk();
    for (int slot = 0; slot < 4; slot++) {
      dueEmpty(x, slot);
    }
  }

  private static void newHasNoNumbers() {
    about("promise 1: no numbers");
    due("the first said", () -> new ConvexDesk().say(0), 1);
    due("constrain", () -> new ConvexDesk().constrain(0, false), ARGUMENT);
    due("generate", () -> new ConvexDesk().generate(0, false), ARGUMENT);
    due("map", () -> new ConvexDesk().map(0, false, 0), ARGUMENT);
    due("maximum", () -> new ConvexDesk().maximum(0), ARGUMENT);
    due("has", () -> new ConvexDesk().has(0), ARGUMENT);
  }

  private static void newHasNoGreatest() {
    about("promise 1: a new object has answered no maximum()");
    due("greatest", () -> new ConvexDesk().greatest(0), STATE);
    due("greatest", () -> new ConvexDesk().greatest(1), STATE);
  }

  private static void newSharesNothing() {
    about("promise 1: an object made beside another is new");
    ConvexDesk x = new ConvexDesk();
    someSets(x);
    tell(x, 1, 2);
    ConvexDesk y = new ConvexDesk();
    for (int slot = 0; slot < 4; slot++) {
      dueEmpty(y, slot);
    }
    due("no numbers", () -> y.say(0), 1);
    due("no greatest", () -> y.greatest(0), STATE);
    due("the older one has its own", () -> x.say(0), 3);
  }

  // ---------------------------------------------------------------- promises 2 and 3

  private static void sayTellsHowMany() {
    about("promise 2: how many are there");
    ConvexDesk x = new ConvexDesk();
    for (int i = 1; i <= 6; i++) {
      final int many = i;
      due("number " + i, () -> x.say(30 - 10 * many), many);
    }
  }

  private static void sayOutsideThirty() {
    about("promise 2: not -30 .. 30");
    ConvexDesk x = new ConvexDesk();
    due("-30", () -> x.say(-30), 1);
    due("30", () -> x.say(30), 2);
    for (int number : new int[] {-31, 31, 256, Integer.MIN_VALUE, Integer.MAX_VALUE}) {
      refused("none there", ARGUMENT, y -> { }, y -> y.say(number));
      refused("five there", ARGUMENT, y -> tellMany(y, 5), y -> y.say(number));
      refused("six there", ARGUMENT, y -> tellMany(y, 6), y -> y.say(number));
    }
  }

  private static void saySeventh() {
    about("promise 2: there are six");
    for (int number : new int[] {-30, 0, 30}) {
      refused("a seventh", STATE, x -> tellMany(x, 6), x -> x.say(number));
    }
  }

  private static void hushLeavesNone() {
    about("promise 3: the numbers are none");
    for (int many = 0; many <= 6; many++) {
      ConvexDesk x = new ConvexDesk();
      someSets(x);
      String before = setOf(x, 0) + setOf(x, 1) + setOf(x, 2);
      tellMany(x, many);
      due("hush", () -> hush(x), "done");
      due("the next is the first of " + many, () -> x.say(3), 1);
      due("the sets stay", () -> setOf(x, 0) + setOf(x, 1) + setOf(x, 2), before);
      due("the greatest stays", () -> x.greatest(0), 4);
    }
  }

  // ---------------------------------------------------------------- promise 4

  private static void setPlane() {
    about("promise 4: the whole plane (true)");
    for (int slot = 0; slot < 4; slot++) {
      ConvexDesk x = new ConvexDesk();
      someSets(x);
      String before = setOf(x, (slot + 1) % 4) + setOf(x, (slot + 2) % 4);
      tell(x, 1, 2);
      set(x, slot, true);
      duePlane(x, slot);
      set(x, slot, true);
      duePlane(x, slot);
      final int at = slot;
      due("others stay", () -> setOf(x, (at + 1) % 4) + setOf(x, (at + 2) % 4), before);
      due("the numbers stay", () -> x.say(3), 3);
      due("the greatest stays", () -> x.greatest(0), 4);
    }
  }

  private static void setEmpty() {
    about("promise 4: empty (false)");
    for (int slot = 0; slot < 4; slot++) {
      ConvexDesk x = new ConvexDesk();
      someSets(x);
      tell(x, 1, 2);
      set(x, slot, false);
      dueEmpty(x, slot);
      set(x, slot, false);
      dueEmpty(x, slot);
      due("the numbers stay", () -> x.say(3), 3);
      due("the greatest stays", () -> x.greatest(0), 4);
    }
  }

  private static void setNoSlot() {
    about("promise 4: there is no such slot");
    for (int slot : WRONG_SLOTS) {
      refused("plane", INDEX, Checks::someSets, x -> set(x, slot, true));
      refused("empty", INDEX, Checks::someSets, x -> set(x, slot, false));
    }
  }

  // ---------------------------------------------------------------- promise 5

  private static void constrainLeavesNothing() {
    about("promise 5: -1 if it is empty");
    ConvexDesk x = new ConvexDesk();
    box(x, 0, 0, 0, 2, 1);
    due("beside it", () -> cut(x, 0, false, -3, 1, 0), -1);
    dueEmpty(x, 0);
    box(x, 0, 0, 0, 2, 1);
    due("a line beside it", () -> cut(x, 0, true, 1, 0, 1), -1);
    dueEmpty(x, 0);
    x.set(0, true);
    cut(x, 0, false, 0, 1, 0);
    due("the other half", () -> cut(x, 0, false, -1, -1, 0), -1);
    dueEmpty(x, 0);
    x.set(0, true);
    cut(x, 0, true, 0, 1, 1);
    due("beside a line", () -> cut(x, 0, true, 1, 1, 1), -1);
    dueEmpty(x, 0);
    hull(x, 0, 1, 1);
    due("beside a point", () -> cut(x, 0, false, 1, -1, -1), -1);
    dueEmpty(x, 0);
    box(x, 0, 0, 0, 2, 1);
    due("at a corner it is not empty", () -> cut(x, 0, false, -3, 1, 1), 0);
    dueRows(x, 0, 4, 1, 2, 1);
  }

  private static void constrainNothing() {
    about("promise 5: a constraint on an empty set");
    ConvexDesk x = new ConvexDesk();
    due("inequality", () -> cut(x, 0, false, 1, 2, 3), -1);
    dueEmpty(x, 0);
    due("equality", () -> cut(x, 0, true, 1, 2, 3), -1);
    dueEmpty(x, 0);
    due("one that all keep", () -> cut(x, 0, false, 0, 0, 0), -1);
    due("one that all keep", () -> cut(x, 0, true, 0, 0, 0), -1);
    due("one that none keeps", () -> cut(x, 0, true, 1, 0, 0), -1);
    dueEmpty(x, 0);
    due("the numbers are taken", () -> x.say(0), 1);
  }

  private static void constrainByNumberAlone() {
    about("promise 5: a constraint that all points keep, or none");
    ConvexDesk x = new ConvexDesk();
    for (int c = -1; c <= 1; c++) {
      final int alone = c;
      x.set(0, true);
      box(x, 1, 0, 0, 1, 1);
      due("plane, not below 0", () -> cut(x, 0, false, alone, 0, 0), c < 0 ? -1 : 2);
      due("box, not below 0", () -> cut(x, 1, false, alone, 0, 0), c < 0 ? -1 : 2);
      x.set(0, true);
      box(x, 1, 0, 0, 1, 1);
      due("plane, 0", () -> cut(x, 0, true, alone, 0, 0), c == 0 ? 2 : -1);
      due("box, 0", () -> cut(x, 1, true, alone, 0, 0), c == 0 ? 2 : -1);
    }
  }

  private static void constrainNoSlot() {
    about("promise 5: there is no such slot");
    for (int slot : WRONG_SLOTS) {
      Steps before = x -> { someSets(x); tell(x, 1, 2, 3); };
      refused("three", INDEX, before, x -> x.constrain(slot, true));
      refused("none", INDEX, Checks::someSets, x -> x.constrain(slot, false));
    }
  }

  private static void constrainNotThree() {
    about("promise 5: there are not three numbers");
    for (int many : new int[] {0, 1, 2, 4, 5, 6}) {
      Steps before = x -> { someSets(x); tellMany(x, many); };
      refused(many + " numbers", ARGUMENT, before, x -> x.constrain(1, false));
      refused(many + " numbers", ARGUMENT, before, x -> x.constrain(1, true));
      refused(many + " numbers on nothing", ARGUMENT, before, x -> x.constrain(3, true));
    }
  }

  private static void constrainTooLarge() {
    about("promise 5: it would be too large");
    Steps corner = x -> {
      someSets(x);
      x.set(3, true);
      cut(x, 3, false, -1, 5, 1);
      tell(x, 0, -1, 6);
    };
    refused("inequality", LARGE, corner, x -> x.constrain(3, false));
    refused("equality", LARGE, corner, x -> x.constrain(3, true));
    Steps onLine = x -> {
      someSets(x);
      x.set(3, true);
      cut(x, 3, true, 30, 1, 0);
      tell(x, -1, 1, 1);
    };
    refused("31 where the pivot is cleared", LARGE, onLine, x -> x.constrain(3, false));
  }

  private static void constrainTooRich() {
    about("promise 5: it would be too rich");
    Steps polygon = x -> {
      someSets(x);
      rich(x, 3);
      tell(x, 9, 2, 0);
    };
    refused("13 sides", RICH, polygon, x -> x.constrain(3, false));
    ConvexDesk x = new ConvexDesk();
    rich(x, 0);
    due("from a corner past the next", () -> cut(x, 0, false, 26, 6, -1), 2);
    due("12 sides", () -> x.rows(0, 1), 12);
    due("12 points", () -> x.rows(0, 4), 12);
    rich(x, 0);
    due("an equality", () -> cut(x, 0, true, 9, 2, 0), 1);
  }

  // ---------------------------------------------------------------- promise 6

  private static void generatePointRayLine() {
    about("promise 6: a point, or a ray, or (both) a line");
    ConvexDesk x = new ConvexDesk();
    due("the least point", () -> add(x, 0, false, 1, 0, 0), 0);
    dueRows(x, 0, 4, 1, 0, 0);
    due("a ray", () -> add(x, 0, false, 0, 0, 1), 1);
    dueRows(x, 0, 3, 0, 0, 1);
    due("a line", () -> add(x, 0, true, 0, 0, 1), 1);
    dueRows(x, 0, 2, 0, 0, 1);
    due("a point far off", () -> add(x, 0, false, 1, 30, -30), 2);
    dueRows(x, 0, 1, 30, -1, 0, 0, 1, 0);
    set(x, 1, true);
    due("a point to the plane", () -> add(x, 1, false, 30, 29, 1), 2);
    due("a ray to the plane", () -> add(x, 1, false, 0, 29, 1), 2);
    due("a line to the plane", () -> add(x, 1, true, 0, 29, 1), 2);
    duePlane(x, 1);
  }

  private static void generateNoSlot() {
    about("promise 6: there is no such slot");
    for (int slot : WRONG_SLOTS) {
      Steps point = x -> { someSets(x); tell(x, 1, 2, 3); };
      refused("point", INDEX, point, x -> x.generate(slot, false));
      Steps line = x -> { someSets(x); tell(x, 0, 2, 3); };
      refused("line", INDEX, line, x -> x.generate(slot, true));
    }
  }

  private static void generateNotThree() {
    about("promise 6: there are not three numbers");
    for (int many : new int[] {0, 1, 2, 4, 5, 6}) {
      Steps before = x -> { someSets(x); tellMany(x, many); };
      refused(many + " numbers", ARGUMENT, before, x -> x.generate(1, false));
      refused(many + " numbers on nothing", ARGUMENT, before, x -> x.generate(3, false));
    }
  }

  private static void generateBelowZero() {
    about("promise 6: g is below 0");
    for (int g : new int[] {-1, -30}) {
      Steps before = x -> { someSets(x); tell(x, g, 1, 2); };
      refused("g is " + g, ARGUMENT, before, x -> x.generate(1, false));
      refused("g is " + g + ", both", ARGUMENT, before, x -> x.generate(1, true));
      refused("g is " + g + " on nothing", ARGUMENT, before, x -> x.generate(3, false));
    }
  }

  private static void generateAllZero() {
    about("promise 6: all are 0");
    Steps before = x -> { someSets(x); tell(x, 0, 0, 0); };
    refused("ray", ARGUMENT, before, x -> x.generate(1, false));
    refused("line", ARGUMENT, before, x -> x.generate(1, true));
    refused("on nothing", ARGUMENT, before, x -> x.generate(3, false));
    ConvexDesk x = new ConvexDesk();
    hull(x, 0, 1, 1);
    due("y alone is not 0", () -> add(x, 0, false, 0, 0, -1), 1);
    hull(x, 0, 1, 1);
    due("x alone is not 0", () -> add(x, 0, false, 0, -1, 0), 1);
    due("g alone is not 0", () -> add(x, 0, false, 1, 0, 0), 2);
  }

  private static void generatePointAndBoth() {
    about("promise 6: g is above 0 and both is true");
    for (int g : new int[] {1, 30}) {
      Steps before = x -> { someSets(x); tell(x, g, 0, 0); };
      refused("g is " + g, ARGUMENT, before, x -> x.generate(1, true));
      refused("g is " + g + " on nothing", ARGUMENT, before, x -> x.generate(3, true));
    }
  }

  private static void generateNoPointToNothing() {
    about("promise 6: the set is empty and it is no point");
    Steps before = x -> { someSets(x); tell(x, 0, 1, 2); };
    refused("ray", NOT_YET, before, x -> x.generate(3, false));
    refused("line", NOT_YET, before, x -> x.generate(3, true));
    Steps cutAway = x -> {
      someSets(x);
      cut(x, 1, false, -3, 1, 0);
      tell(x, 0, 0, 1);
    };
    refused("ray to what was cut away", NOT_YET, cutAway, x -> x.generate(1, false));
    Steps setAway = x -> {
      someSets(x);
      x.set(1, false);
      tell(x, 0, 0, 1);
    };
    refused("line to what was set empty", NOT_YET, setAway, x -> x.generate(1, true));
  }

  private static void generateTooLarge() {
    about("promise 6: it would be too large");
    refused(
        "point",
        LARGE,
        x -> { someSets(x); hull(x, 3, 0, 15); tell(x, 1, 1, -16); },
        x -> x.generate(3, false));
    refused(
        "ray",
        LARGE,
        x -> { someSets(x); hull(x, 3, 0, 16); tell(x, 0, 2, -3); },
        x -> x.generate(3, false));
    refused(
        "line",
        LARGE,
        x -> { someSets(x); hull(x, 3, 0, -16); tell(x, 0, 2, -3); },
        x -> x.generate(3, true));
  }

  private static void generateTooRich() {
    about("promise 6: it would be too rich");
    refused(
        "13 points",
        RICH,
        x -> { someSets(x); rich(x, 3); tell(x, 4, 0, -15); },
        x -> x.generate(3, false));
    refused(
        "11 points and 2 rays",
        RICH,
        x -> { someSets(x); bowl(x, 3); tell(x, 1, -8, 8); },
        x -> x.generate(3, false));
    ConvexDesk x = new ConvexDesk();
    rich(x, 0);
    due("a corner that is there", () -> add(x, 0, false, 1, 3, 0), 2);
    due("a point within", () -> add(x, 0, false, 1, 0, 0), 2);
    due("a point on a side", () -> add(x, 0, false, 2, 5, 2), 2);
    due("a point that takes a corner in", () -> add(x, 0, false, 5, 16, 0), 2);
    due("still 12", () -> x.rows(0, 4), 12);
    due("a ray takes corners in", () -> add(x, 0, false, 0, 1, 0), 2);
    due("but one ray", () -> x.rows(0, 3), 1);
  }

  // ---------------------------------------------------------------- promise 7

  private static void combineBothWithNothing() {
    about("promise 7: what is in both, of empty sets");
    ConvexDesk x = new ConvexDesk();
    someSets(x);
    x.set(0, true);
    for (int slot = 0; slot < 3; slot++) {
      dueNothing(x, 0, slot, 3);
      dueNothing(x, 0, 3, slot);
    }
    dueNothing(x, 0, 3, 3);
  }

  private static void combineHullWithNothing() {
    about("promise 7: the least set with all points of both, of empty sets");
    for (int slot = 0; slot < 3; slot++) {
      ConvexDesk x = new ConvexDesk();
      someSets(x);
      final int at = slot;
      String same = setOf(x, slot);
      int dimension = x.dimension(slot);
      due("set and nothing", () -> x.combine(1, at, 3, at), dimension);
      due("is the set", () -> setOf(x, at), same);
      due("nothing and set", () -> x.combine(1, 3, at, 3), dimension);
      due("is the set", () -> setOf(x, 3), same);
    }
    ConvexDesk x = new ConvexDesk();
    due("nothing and nothing", () -> x.combine(1, 0, 1, 2), -1);
    dueEmpty(x, 2);
    x.set(0, true);
    due("plane and nothing", () -> x.combine(1, 0, 1, 2), 2);
    duePlane(x, 2);
  }

  private static void combineSumWithNothing() {
    about("promise 7: all sums, of empty sets");
    ConvexDesk x = new ConvexDesk();
    someSets(x);
    x.set(0, true);
    for (int slot = 0; slot < 3; slot++) {
      dueNothing(x, 2, slot, 3);
      dueNothing(x, 2, 3, slot);
    }
    dueNothing(x, 2, 3, 3);
  }

  /** An empty result goes into the empty slot 3, so that the others stay for the next call. */
  private static void dueNothing(ConvexDesk x, int kind, int one, int other) {
    String what = "kind " + kind + " of " + one + ", " + other;
    due(what, () -> x.combine(kind, one, other, 3), -1);
    dueEmpty(x, 3);
  }

  private static void combineInPlace() {
    about("promise 7: slot to is one of the two, or both are one");
    for (int kind = 0; kind < 3; kind++) {
      final int of = kind;
      ConvexDesk apart = new ConvexDesk();
      box(apart, 0, 0, 0, 2, 2);
      box(apart, 1, 1, 1, 4, 3);
      apart.combine(kind, 0, 1, 2);
      String same = setOf(apart, 2);
      String first = setOf(apart, 0);
      due("to the first", () -> apart.combine(of, 0, 1, 0), 2);
      due("to the first", () -> setOf(apart, 0), same);
      box(apart, 0, 0, 0, 2, 2);
      due("to the second", () -> apart.combine(of, 0, 1, 1), 2);
      due("to the second", () -> setOf(apart, 1), same);
      due("the first stays", () -> setOf(apart, 0), first);
    }
    ConvexDesk x = new ConvexDesk();
    box(x, 0, 0, 0, 2, 2);
    String box = setOf(x, 0);
    due("in both of one", () -> x.combine(0, 0, 0, 0), 2);
    due("is the same", () -> setOf(x, 0), box);
    due("the least with both of one", () -> x.combine(1, 0, 0, 0), 2);
    due("is the same", () -> setOf(x, 0), box);
    due("the sums of one", () -> x.combine(2, 0, 0, 0), 2);
    dueRows(x, 0, 4, 1, 0, 0, 1, 0, 4, 1, 4, 0, 1, 4, 4);
  }

  private static void combineNoSlot() {
    about("promise 7: there is no such slot");
    for (int slot : WRONG_SLOTS) {
      for (int kind = -1; kind <= 3; kind++) {
        final int of = kind;
        refused("one", INDEX, Checks::someSets, x -> x.combine(of, slot, 1, 2));
        refused("other", INDEX, Checks::someSets, x -> x.combine(of, 1, slot, 2));
        refused("to", INDEX, Checks::someSets, x -> x.combine(of, 1, 2, slot));
      }
    }
  }

  private static void combineNoKind() {
    about("promise 7: there is no such kind");
    for (int kind : WRONG_KINDS) {
      refused("sets", ARGUMENT, Checks::someSets, x -> x.combine(kind, 0, 1, 2));
      refused("nothing", ARGUMENT, Checks::someSets, x -> x.combine(kind, 3, 3, 3));
    }
  }

  private static void combineTooLarge() {
    about("promise 7: it would be too large");
    Steps halves = x -> {
      someSets(x);
      x.set(0, true);
      cut(x, 0, false, -1, 5, 1);
      x.set(3, true);
      cut(x, 3, false, 0, -1, 6);
      tell(x, 1, 2);
    };
    refused("in both", LARGE, halves, x -> x.combine(0, 0, 3, 1));
    refused("in both, in place", LARGE, halves, x -> x.combine(0, 0, 3, 0));
    Steps points = x -> {
      someSets(x);
      hull(x, 0, 0, 15);
      hull(x, 3, 1, -16);
      tell(x, 1, 2);
    };
    refused("the least with both", LARGE, points, x -> x.combine(1, 0, 3, 1));
    refused("the least with both, in place", LARGE, points, x -> x.combine(1, 0, 3, 3));
    refused("sums", LARGE, points, x -> x.combine(2, 3, 3, 1));
    refused("sums, in place", LARGE, points, x -> x.combine(2, 3, 3, 3));
    ConvexDesk x = new ConvexDesk();
    hull(x, 0, 15, -15);
    due("30 and -30 are not", () -> x.combine(2, 0, 0, 1), 0);
    dueRows(x, 1, 4, 1, 30, -30);
    Steps above = y -> { hull(y, 0, 16, 0); hull(y, 1, 15, 0); };
    refused("31", LARGE, above, y -> y.combine(2, 0, 1, 2));
    Steps below = y -> { hull(y, 0, 0, -16); hull(y, 1, 0, -15); };
    refused("-31", LARGE, below, y -> y.combine(2, 0, 1, 2));
  }

  private static void combineTooRich() {
    about("promise 7: it would be too rich");
    Steps cutOff = x -> {
      rich(x, 0);
      x.set(1, true);
      cut(x, 1, false, 9, 2, 0);
      tell(x, 1, 2);
    };
    refused("in both", RICH, cutOff, x -> x.combine(0, 0, 1, 2));
    refused("in both, in place", RICH, cutOff, x -> x.combine(0, 1, 0, 1));
    Steps corner = x -> {
      rich(x, 0);
      add(x, 1, false, 4, 0, -15);
      tell(x, 1, 2);
    };
    refused("the least with both", RICH, corner, x -> x.combine(1, 0, 1, 2));
    refused("the least with both, in place", RICH, corner, x -> x.combine(1, 1, 0, 0));
    Steps way = x -> {
      rich(x, 0);
      hull(x, 1, 0, 0, 1, 0);
      tell(x, 1, 2);
    };
    refused("sums", RICH, way, x -> x.combine(2, 0, 1, 2));
    refused("sums, in place", RICH, way, x -> x.combine(2, 1, 0, 1));
    ConvexDesk x = new ConvexDesk();
    rich(x, 0);
    hull(x, 1, 0, 0, 2, 1);
    due("a way along a side", () -> x.combine(2, 0, 1, 2), 2);
    due("makes no more of them", () -> x.rows(2, 4), 12);
  }

  // ---------------------------------------------------------------- promise 8

  private static void mapNothing() {
    about("promise 8: an empty set, both ways");
    int[][] maps = {{1, 0, 0, 1, 0, 0}, {0, 0, 0, 0, 0, 0}, {0, 0, 0, 0, 5, 5}, {30, 29, 28, 7, 1, 2}};
    for (int[] six : maps) {
      ConvexDesk x = new ConvexDesk();
      someSets(x);
      due("to another", () -> move(x, 3, false, 0, six), -1);
      dueEmpty(x, 0);
      due("back to another", () -> move(x, 3, true, 1, six), -1);
      dueEmpty(x, 1);
      due("to itself", () -> move(x, 3, false, 3, six), -1);
      due("back to itself", () -> move(x, 3, true, 3, six), -1);
      dueEmpty(x, 3);
    }
  }

  private static void mapToOnePoint() {
    about("promise 8: all points go to one");
    ConvexDesk x = new ConvexDesk();
    someSets(x);
    due("of a box", () -> move(x, 1, false, 3, 0, 0, 0, 0, -30, 30), 0);
    dueRows(x, 3, 4, 1, -30, 30);
    x.set(3, true);
    due("of the plane", () -> move(x, 3, false, 3, 0, 0, 0, 0, 2, 1), 0);
    dueRows(x, 3, 4, 1, 2, 1);
    due("back from a set with it", () -> move(x, 1, true, 3, 0, 0, 0, 0, 2, 1), 2);
    duePlane(x, 3);
    due("back from a set without it", () -> move(x, 1, true, 3, 0, 0, 0, 0, 2, 2), -1);
    dueEmpty(x, 3);
    x.set(3, true);
    due("back from the plane", () -> move(x, 3, true, 3, 0, 0, 0, 0, 30, 30), 2);
    duePlane(x, 3);
  }

  private static void mapNoSlot() {
    about("promise 8: there is no such slot");
    for (int slot : WRONG_SLOTS) {
      for (int many : new int[] {0, 6}) {
        Steps before = x -> { someSets(x); tellMany(x, many); };
        refused("from", INDEX, before, x -> x.map(slot, false, 0));
        refused("from, back", INDEX, before, x -> x.map(slot, true, 0));
        refused("to", INDEX, before, x -> x.map(0, false, slot));
        refused("to, back", INDEX, before, x -> x.map(0, true, slot));
      }
    }
  }

  private static void mapNotSix() {
    about("promise 8: there are not six numbers");
    for (int many = 0; many < 6; many++) {
      final int told = many;
      Steps before = x -> { someSets(x); tellMany(x, told); };
      refused(many + " numbers", ARGUMENT, before, x -> x.map(0, false, 1));
      refused(many + " numbers, back", ARGUMENT, before, x -> x.map(0, true, 1));
      refused(many + " numbers of nothing", ARGUMENT, before, x -> x.map(3, false, 1));
    }
  }

  private static void mapTooLarge() {
    about("promise 8: it would be too large");
    Steps forth = x -> {
      someSets(x);
      hull(x, 3, 30, 30);
      tell(x, 1, 0, 0, 1, 1, 0);
    };
    refused("31", LARGE, forth, x -> x.map(3, false, 0));
    refused("31 in place", LARGE, forth, x -> x.map(3, false, 3));
    Steps back = x -> {
      someSets(x);
      hull(x, 3, 30, -30);
      tell(x, 1, 0, 0, 1, 0, 1);
    };
    refused("-31 back", LARGE, back, x -> x.map(3, true, 0));
    refused("-31 back in place", LARGE, back, x -> x.map(3, true, 3));
    ConvexDesk x = new ConvexDesk();
    hull(x, 0, 29, -29);
    due("30 and -30", () -> move(x, 0, false, 1, 1, 0, 0, 1, 1, -1), 0);
    dueRows(x, 1, 4, 1, 30, -30);
    due("30 and -30 back", () -> move(x, 0, true, 1, 1, 0, 0, 1, -1, 1), 0);
    dueRows(x, 1, 4, 1, 30, -30);
    due("g is 30", () -> move(x, 0, true, 1, 30, 0, 0, 30, 0, 0), 0);
    dueRows(x, 1, 4, 30, 29, -29);
  }

  private static void mapNeverRicher() {
    about("promise 8: a set of 12 sides or of 10 corners and 2 rays has no more of them after it");
    ConvexDesk x = new ConvexDesk();
    rich(x, 0);
    due("forth", () -> move(x, 0, false, 1, 1, 1, 0, 1, 3, 0), 2);
    due("12 points", () -> x.rows(1, 4), 12);
    due("back", () -> move(x, 1, true, 1, 1, 1, 0, 1, 3, 0), 2);
    due("is what it was", () -> setOf(x, 1), setOf(x, 0));
    bowl(x, 2);
    due("forth", () -> move(x, 2, false, 3, 0, 1, 1, 0, 0, 0), 2);
    due("10 points", () -> x.rows(3, 4), 10);
    due("2 rays", () -> x.rows(3, 3), 2);
    due("back", () -> move(x, 3, true, 3, 0, 1, 1, 0, 0, 0), 2);
    due("is what it was", () -> setOf(x, 3), setOf(x, 2));
  }
}
