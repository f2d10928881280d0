/**
 * The document's first section: a set is kept by its constraints and by its generators, each of them
 * enough to make it; equal sets have equal rows; and an object is used for 512 calls.
 */
public final class WholeTest extends Checks {
  private static final int CALLS = 512;
  private static final int CALLS_OF_SOME_SETS = 30;

  /** Each makes slot 0, whatever it was; no two make the same set. */
  private static final Steps[] SETS = {
    x -> x.set(0, false),
    x -> x.set(0, true),
    x -> hull(x, 0, 5, -2),
    x -> { x.set(0, false); add(x, 0, false, 6, -3, 2); },
    x -> hull(x, 0, -2, 3, 4, -1),
    x -> hull(x, 0, 3, -2, 3, 5),
    x -> { hull(x, 0, 0, 1); add(x, 0, false, 0, -2, 3); },
    x -> { hull(x, 0, 2, 1); add(x, 0, false, 0, 0, -1); },
    x -> { hull(x, 0, 2, 1); add(x, 0, true, 0, 0, 1); },
    x -> { hull(x, 0, 2, 1); add(x, 0, true, 0, 3, 2); },
    x -> half(x, 1, 2, -3),
    x -> half(x, 0, 0, -1),
    x -> { half(x, 1, 2, -3); cut(x, 0, false, 5, -2, 3); },
    x -> { half(x, 1, 1, 0); cut(x, 0, false, 1, -1, 0); },
    x -> { half(x, 0, 2, 1); cut(x, 0, false, 1, -1, 1); },
    x -> { half(x, 0, 1, 0); cut(x, 0, false, 0, 0, 1); cut(x, 0, false, 2, 0, -3); },
    x -> { half(x, 0, 1, 2); cut(x, 0, false, 0, 1, -2); cut(x, 0, false, -3, 4, 0); },
    x -> box(x, 0, -1, 0, 2, 3),
    x -> { half(x, 1, 2, 1); cut(x, 0, false, 1, -1, 1); cut(x, 0, false, 2, -1, -2); },
    x -> rich(x, 0),
    x -> bowl(x, 0),
  };

  public static void main(String[] args) {
    constraintsMakeIt();
    generatorsMakeIt();
    equalSetsHaveEqualRows();
    whatChangesNothingChangesNoRow();
    thereAndBack();
    allItsCalls();
    finish();
  }

  private static void half(ConvexDesk x, int c, int a, int b) {
    x.set(0, true);
    cut(x, 0, false, c, a, b);
  }

  private static ConvexDesk deskWith(Steps made) {
    ConvexDesk x = new ConvexDesk();
    made.on(x);
    return x;
  }

  // ---------------------------------------------------------------- kept both ways

  private static void constraintsMakeIt() {
    about("what it is: a set is what its constraints cut out");
    for (int k = 1; k < SETS.length; k++) {
      ConvexDesk x = deskWith(SETS[k]);
      x.set(1, true);
      cutByRows(x, 1, false);
      cutByRows(x, 0, true);
      due("set " + k + " from its constraints", () -> setOf(x, 1), setOf(x, 0));
    }
  }

  private static void cutByRows(ConvexDesk x, int kind, boolean equality) {
    for (int i = x.rows(0, kind) - 1; i >= 0; i--) {
      cut(x, 1, equality, x.row(0, kind, i, 0), x.row(0, kind, i, 1), x.row(0, kind, i, 2));
    }
  }

  private static void generatorsMakeIt() {
    about("what it is: a set is what its points, rays and lines make");
    for (int k = 1; k < SETS.length; k++) {
      ConvexDesk x = deskWith(SETS[k]);
      // From its middle point on, the bowl is not too large at any time.
      int middle = (x.rows(0, 4) - 1) / 2;
      addRows(x, 4, middle, middle + 1);
      addRows(x, 2, 0, x.rows(0, 2));
      addRows(x, 3, 0, x.rows(0, 3));
      addRows(x, 4, 0, x.rows(0, 4));
      due("set " + k + " from its generators", () -> setOf(x, 1), setOf(x, 0));
    }
  }

  private static void addRows(ConvexDesk x, int kind, int from, int to) {
    for (int i = to - 1; i >= from; i--) {
      add(x, 1, kind == 2, x.row(0, kind, i, 0), x.row(0, kind, i, 1), x.row(0, kind, i, 2));
    }
  }

  // ---------------------------------------------------------------- equal sets, equal rows

  private static void equalSetsHaveEqualRows() {
    about("what it is: equal sets have equal rows, others have not");
    for (int k = 0; k < SETS.length; k++) {
      for (int n = 0; n < SETS.length; n++) {
        ConvexDesk x = deskWith(SETS[n]);
        x.combine(1, 0, 0, 1);
        SETS[k].on(x);
        boolean equal = k == n;
        String which = "sets " + k + " and " + n;
        due(which + " as points", () -> x.includes(0, 1) && x.includes(1, 0), equal);
        due(which + " as rows", () -> setOf(x, 0).equals(setOf(x, 1)), equal);
      }
    }
  }

  private static void whatChangesNothingChangesNoRow() {
    about("what it is: equal sets have equal rows, whatever made them");
    for (int k = 0; k < SETS.length; k++) {
      dueSame(k, "cut by itself", x -> x.combine(0, 0, 0, 0));
      dueSame(k, "joined with itself", x -> x.combine(1, 0, 0, 0));
      dueSame(k, "cut by the plane", x -> { x.set(1, true); return x.combine(0, 1, 0, 0); });
      dueSame(k, "joined with nothing", x -> x.combine(1, 1, 0, 0));
      dueSame(k, "added to the origin", x -> { hull(x, 1, 0, 0); return x.combine(2, 1, 0, 0); });
      dueSame(k, "mapped to itself", x -> move(x, 0, false, 0, 1, 0, 0, 1, 0, 0));
      dueSame(k, "mapped back to itself", x -> move(x, 0, true, 0, 1, 0, 0, 1, 0, 0));
      dueSame(k, "under 0 = 0", x -> cut(x, 0, true, 0, 0, 0));
      dueSame(k, "cut by its hull with the origin", x -> {
        hull(x, 1, 0, 0);
        x.combine(1, 0, 1, 1);
        return x.combine(0, 0, 1, 0);
      });
    }
  }

  private static void thereAndBack() {
    about("what it is: equal sets have equal rows, after a map and the one that undoes it");
    for (int k = 0; k < SETS.length; k++) {
      dueSame(k, "turned four times", x -> {
        for (int i = 0; i < 3; i++) {
          move(x, 0, false, 0, 0, -1, 1, 0, 0, 0);
        }
        return move(x, 0, false, 0, 0, -1, 1, 0, 0, 0);
      });
      dueSame(k, "mirrored, and back", x -> {
        move(x, 0, false, 1, -1, 0, 0, 1, 1, -2);
        return move(x, 1, true, 0, -1, 0, 0, 1, 1, -2);
      });
      dueSame(k, "back first, and forth", x -> {
        move(x, 0, true, 1, 0, 1, 1, 0, 1, -1);
        return move(x, 1, false, 0, 0, 1, 1, 0, 1, -1);
      });
      dueSame(k, "forth and forth", x -> {
        move(x, 0, false, 1, 0, 1, -1, 0, 2, 1);
        return move(x, 1, false, 0, 0, -1, 1, 0, 1, -2);
      });
    }
  }

  private static void dueSame(int k, String what, Act act) {
    ConvexDesk x = deskWith(SETS[k]);
    String before = setOf(x, 0);
    due("set " + k + " " + what, () -> act.on(x), x.dimension(0));
    due("set " + k + " " + what, () -> setOf(x, 0), before);
  }

  // ---------------------------------------------------------------- 512 calls

  private static void allItsCalls() {
    about("what it is: an object is used for 512 calls");
    dueLast("say", 1, x -> x.say(-30), 2);
    dueLast("hush", 6, x -> hush(x), "done");
    dueLast("set", 0, x -> set(x, 3, true), "done");
    dueLast("constrain", 3, x -> x.constrain(1, false), 2);
    dueLast("generate", 3, x -> x.generate(2, false), 2);
    dueLast("combine", 0, x -> x.combine(2, 1, 2, 3), 2);
    dueLast("map", 6, x -> x.map(1, false, 0), 2);
    dueLast("maximum", 2, x -> x.maximum(1), 2);
    dueLast("greatest", 0, x -> x.greatest(0), 4);
    dueLast("has", 3, x -> x.has(1), false);
    dueLast("includes", 0, x -> x.includes(1, 1), true);
    dueLast("dimension", 0, x -> x.dimension(2), 1);
    dueLast("rows", 0, x -> x.rows(1, 4), 4);
    dueLast("row", 0, x -> x.row(2, 0, 0, 2), 3);
    dueLast("a call that throws", 0, x -> x.combine(3, 0, 0, 0), ARGUMENT);
  }

  /** The numbers are 1, 2 and so on. */
  private static void dueLast(String what, int numbers, Act last, Object answer) {
    ConvexDesk x = new ConvexDesk();
    someSets(x);
    for (int call = CALLS_OF_SOME_SETS; call < CALLS - 1 - numbers; call++) {
      anyCall(x, call);
    }
    tellMany(x, numbers);
    due(what + " as the 512th call", () -> last.on(x), answer);
  }

  private static void anyCall(ConvexDesk x, int call) {
    switch (call % 6) {
      case 0:
        x.set(3, call % 4 == 0);
        break;
      case 1:
        due("joined", () -> x.combine(1, 1, 0, 3), 2);
        break;
      case 2:
        due("too few numbers", () -> x.map(1, true, 1), ARGUMENT);
        break;
      case 3:
        due("cut", () -> x.combine(0, 3, 2, 3), -1);
        break;
      case 4:
        due("added", () -> x.combine(2, 1, 0, 3), 2);
        break;
      default:
        due("joined", () -> x.combine(1, 1, 2, 3), 2);
        break;
    }
  }
}
