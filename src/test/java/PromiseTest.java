/** What each promise of the document asks: ordinary calls, the edges it names, and wrong calls. */
public final class PromiseTest extends Checks {
  public static void main(String[] args) {
    newObject();
    say();
    hush();
    set();
    constrain();
    constrainEdges();
    constrainRefused();
    generate();
    generateEdges();
    generateRefused();
    combineBoth();
    combineHull();
    combineSum();
    combineRefused();
    mapForth();
    mapBack();
    mapRefused();
    maximum();
    greatest();
    has();
    includes();
    dimension();
    rows();
    row();
    rowForms();
    rowOrder();
    finish();
  }

  // ---------------------------------------------------------------- the promises

  private static void newObject() {
    about("promise 1 a new object");
    ConvexDesk x = new ConvexDesk();
    for (int slot = 0; slot < 4; slot++) {
      final int at = slot;
      due("dimension", () -> x.dimension(at), -1);
      dueEmpty(x, slot);
    }
    due("say", () -> x.say(5), 1);
    due("greatest", () -> new ConvexDesk().greatest(0), STATE);
  }

  private static void say() {
    about("promise 2 say");
    ConvexDesk x = new ConvexDesk();
    due("31", () -> x.say(31), ARGUMENT);
    due("-31", () -> x.say(-31), ARGUMENT);
    due("least", () -> x.say(Integer.MIN_VALUE), ARGUMENT);
    due("most", () -> x.say(Integer.MAX_VALUE), ARGUMENT);
    due("30", () -> x.say(30), 1);
    due("-30", () -> x.say(-30), 2);
    tell(x, 0, 1, 2);
    due("sixth", () -> x.say(3), 6);
    due("seventh", () -> x.say(3), STATE);
    due("seventh and too big", () -> x.say(31), ARGUMENT);
  }

  private static void hush() {
    about("promise 3 hush");
    ConvexDesk x = new ConvexDesk();
    x.hush();
    tell(x, 1, 2, 3, 4, 5, 6);
    x.hush();
    due("say", () -> x.say(1), 1);
  }

  private static void set() {
    about("promise 4 set");
    ConvexDesk x = new ConvexDesk();
    tell(x, 1, 2);
    x.set(3, true);
    due("numbers stay", () -> x.say(0), 3);
    due("plane", () -> x.dimension(3), 2);
    dueRows(x, 3, 0);
    dueRows(x, 3, 1);
    dueRows(x, 3, 2, 0, 1, 0, 0, 0, 1);
    dueRows(x, 3, 3);
    dueRows(x, 3, 4, 1, 0, 0);
    dueEmpty(x, 2);
    x.set(3, true);
    dueRows(x, 3, 2, 0, 1, 0, 0, 0, 1);
    x.set(3, false);
    dueEmpty(x, 3);
    for (int slot : WRONG_SLOTS) {
      due("slot", () -> set(x, slot, true), INDEX);
      due("slot", () -> set(x, slot, false), INDEX);
    }
  }

  private static void constrain() {
    about("promise 5 constrain");
    ConvexDesk x = new ConvexDesk();
    x.set(0, true);
    due("half-plane", () -> cut(x, 0, false, -30, 4, 2), 2);
    dueRows(x, 0, 1, -15, 2, 1);
    dueRows(x, 0, 2, 0, 1, -2);
    dueRows(x, 0, 3, 0, 0, 1);
    dueRows(x, 0, 4, 1, 0, 15);
    due("takes the numbers", () -> x.say(0), 1);
    x.hush();
    due("strip", () -> cut(x, 0, false, 20, -2, -1), 2);
    dueRows(x, 0, 1, 20, -2, -1, -15, 2, 1);
    dueRows(x, 0, 3);
    dueRows(x, 0, 4, 1, 0, 15, 1, 0, 20);
    due("line", () -> cut(x, 0, true, -15, 2, 1), 1);
    dueRows(x, 0, 0, -15, 2, 1);
    dueRows(x, 0, 1);
    dueRows(x, 0, 2, 0, 1, -2);
    dueRows(x, 0, 4, 1, 0, 15);
    due("half-line", () -> cut(x, 0, false, 0, 1, 0), 1);
    dueRows(x, 0, 0, -15, 2, 1);
    dueRows(x, 0, 1, 15, 0, -1);
    dueRows(x, 0, 2);
    dueRows(x, 0, 3, 0, 1, -2);
    dueRows(x, 0, 4, 1, 0, 15);
    due("point", () -> cut(x, 0, true, -1, 0, 2), 0);
    dueRows(x, 0, 0, -29, 4, 0, -1, 0, 2);
    dueRows(x, 0, 1);
    dueRows(x, 0, 3);
    dueRows(x, 0, 4, 4, 29, 2);
    due("nothing", () -> cut(x, 0, false, -8, 1, 0), -1);
    dueEmpty(x, 0);
    due("of nothing", () -> cut(x, 0, false, 1, 0, 0), -1);
    dueEmpty(x, 0);
  }

  private static void constrainEdges() {
    about("promise 5 constrain, edges");
    ConvexDesk x = new ConvexDesk();
    x.set(0, true);
    due("0 is not below 0", () -> cut(x, 0, false, 0, 0, 0), 2);
    due("0 is 0", () -> cut(x, 0, true, 0, 0, 0), 2);
    due("5 is not below 0", () -> cut(x, 0, false, 5, 0, 0), 2);
    dueRows(x, 0, 1);
    due("-1 is below 0", () -> cut(x, 0, false, -1, 0, 0), -1);
    x.set(0, true);
    due("5 is not 0", () -> cut(x, 0, true, 5, 0, 0), -1);
    x.set(0, true);
    cut(x, 0, false, 0, 1, 0);
    due("two sides that meet", () -> cut(x, 0, false, 0, -1, 0), 1);
    dueRows(x, 0, 0, 0, 1, 0);
    dueRows(x, 0, 1);
    due("spare", () -> cut(x, 0, false, 3, -1, 0), 1);
    dueRows(x, 0, 1);
    x.set(0, true);
    cut(x, 0, false, 0, 1, 0);
    cut(x, 0, false, 0, 0, 1);
    cut(x, 0, false, 2, -1, -1);
    due("touches a corner", () -> cut(x, 0, false, -2, 1, 0), 0);
    dueRows(x, 0, 4, 1, 2, 0);
    dueRows(x, 0, 0, -2, 1, 0, 0, 0, 1);
  }

  private static void constrainRefused() {
    about("promise 5 constrain, refused");
    ConvexDesk x = new ConvexDesk();
    x.set(1, true);
    for (int slot : WRONG_SLOTS) {
      due("slot", () -> x.constrain(slot, true), INDEX);
    }
    due("no numbers", () -> x.constrain(1, true), ARGUMENT);
    tell(x, 1, 1);
    due("two numbers", () -> x.constrain(1, true), ARGUMENT);
    due("stay", () -> x.say(0), 3);
    due("four numbers", () -> x.say(0), 4);
    due("four numbers", () -> x.constrain(1, true), ARGUMENT);
    x.hush();
    cut(x, 1, true, -7, 3, 5);
    due("too large a point", () -> cut(x, 1, true, 1, 11, -13), LARGE);
    due("the numbers stay", () -> x.say(9), 4);
    x.hush();
    dueRows(x, 1, 0, -7, 3, 5);
    dueRows(x, 1, 4, 5, 0, 7);
    x.set(1, true);
    cut(x, 1, true, 30, 1, 0);
    due("29 once its pivot is cleared", () -> cut(x, 1, false, -1, -1, 1), 1);
    dueRows(x, 1, 1, 29, 0, 1);
    due("31 there", () -> cut(x, 1, false, -1, 1, 1), LARGE);
    dueRows(x, 1, 1, 29, 0, 1);
    x.hush();
    rich(x, 0);
    due("a thirteenth side", () -> cut(x, 0, false, 9, 2, 0), STATE);
    due("the numbers stay", () -> x.say(9), 4);
    x.hush();
    due("12 sides stay", () -> x.rows(0, 1), 12);
    due("12 points stay", () -> x.rows(0, 4), 12);
    due("too large before too rich", () -> cut(x, 0, false, 29, 6, 1), LARGE);
    x.hush();
    due("12 again", () -> cut(x, 0, false, 5, 1, 0), 2);
    due("12 sides", () -> x.rows(0, 1), 12);
  }

  private static void generate() {
    about("promise 6 generate");
    ConvexDesk x = new ConvexDesk();
    due("point", () -> add(x, 2, false, 6, 4, -8), 0);
    dueRows(x, 2, 4, 3, 2, -4);
    dueRows(x, 2, 0, -2, 3, 0, 4, 0, 3);
    due("takes the numbers", () -> x.say(0), 1);
    x.hush();
    due("the same", () -> add(x, 2, false, 3, 2, -4), 0);
    due("ray", () -> add(x, 2, false, 0, 0, 4), 1);
    dueRows(x, 2, 0, -2, 3, 0);
    dueRows(x, 2, 1, 4, 0, 3);
    dueRows(x, 2, 3, 0, 0, 1);
    due("point off it", () -> add(x, 2, false, 1, 0, 0), 2);
    dueRows(x, 2, 1, 2, -3, 0, 0, 1, 0, 0, 2, 1);
    dueRows(x, 2, 4, 1, 0, 0, 3, 2, -4);
    due("the opposite ray", () -> add(x, 2, false, 0, 0, -9), 2);
    dueRows(x, 2, 2, 0, 0, 1);
    dueRows(x, 2, 3);
    dueRows(x, 2, 4, 1, 0, 0, 3, 2, 0);
    dueRows(x, 2, 1, 2, -3, 0, 0, 1, 0);
    due("ray across", () -> add(x, 2, false, 0, -5, 7), 2);
    dueRows(x, 2, 1, 2, -3, 0);
    dueRows(x, 2, 3, 0, -1, 0);
    due("line across", () -> add(x, 2, true, 0, -5, 7), 2);
    dueRows(x, 2, 2, 0, 1, 0, 0, 0, 1);
    dueRows(x, 2, 1);
    dueRows(x, 2, 4, 1, 0, 0);
  }

  private static void generateEdges() {
    about("promise 6 generate, edges");
    ConvexDesk x = new ConvexDesk();
    add(x, 0, false, 1, 0, 0);
    due("a line on both sides", () -> add(x, 0, true, 0, -2, 4), 1);
    dueRows(x, 0, 2, 0, 1, -2);
    due("a point off a line makes a strip", () -> add(x, 0, false, 1, 1, 0), 2);
    dueRows(x, 0, 1, 2, -2, -1, 0, 2, 1);
    add(x, 1, false, 1, 3, 3);
    add(x, 1, false, 0, 1, 0);
    add(x, 1, false, 0, 1, 1);
    due("a spare ray", () -> add(x, 1, false, 0, 2, 1), 2);
    dueRows(x, 1, 3, 0, 1, 0, 0, 1, 1);
    dueRows(x, 1, 1, -3, 0, 1, 0, 1, -1);
    due("three rays make the plane", () -> add(x, 1, false, 0, -5, -1), 2);
    dueRows(x, 1, 1);
    dueRows(x, 1, 2, 0, 1, 0, 0, 0, 1);
  }

  private static void generateRefused() {
    about("promise 6 generate, refused");
    ConvexDesk x = new ConvexDesk();
    for (int slot : WRONG_SLOTS) {
      due("slot", () -> x.generate(slot, false), INDEX);
    }
    tell(x, 1, 0);
    due("two numbers", () -> x.generate(0, false), ARGUMENT);
    tell(x, 0, 0);
    due("four numbers", () -> x.generate(0, false), ARGUMENT);
    x.hush();
    due("g below 0", () -> add(x, 0, false, -1, 0, 0), ARGUMENT);
    x.hush();
    due("all 0", () -> add(x, 0, false, 0, 0, 0), ARGUMENT);
    x.hush();
    due("all 0 and both", () -> add(x, 0, true, 0, 0, 0), ARGUMENT);
    x.hush();
    due("a point and both", () -> add(x, 0, true, 1, 0, 0), ARGUMENT);
    x.hush();
    due("ray to nothing", () -> add(x, 0, false, 0, 1, 0), NOT_YET);
    due("the numbers stay", () -> x.say(0), 4);
    x.hush();
    due("line to nothing", () -> add(x, 0, true, 0, 1, 0), NOT_YET);
    x.hush();
    dueEmpty(x, 0);
    add(x, 0, false, 1, 30, 30);
    due("too large a side", () -> add(x, 0, false, 1, 29, -30), LARGE);
    due("the numbers stay", () -> x.say(0), 4);
    x.hush();
    dueRows(x, 0, 4, 1, 30, 30);
    rich(x, 1);
    due("a thirteenth corner", () -> add(x, 1, false, 4, 0, -15), STATE);
    x.hush();
    due("12 corners stay", () -> x.rows(1, 4), 12);
    bowl(x, 2);
    due("10 points and 2 rays have 11 sides", () -> x.rows(2, 1), 11);
    due("11 points, 2 rays, 12 sides", () -> add(x, 2, false, 1, -8, 8), STATE);
    x.hush();
    due("10 points stay", () -> x.rows(2, 4), 10);
    due("2 rays stay", () -> x.rows(2, 3), 2);
  }

  private static void combineBoth() {
    about("promise 7 combine, both");
    ConvexDesk x = new ConvexDesk();
    box(x, 0, 0, 0, 4, 4);
    box(x, 1, 2, 3, 6, 7);
    due("boxes", () -> x.combine(0, 0, 1, 2), 2);
    dueRows(x, 2, 4, 1, 2, 3, 1, 2, 4, 1, 4, 3, 1, 4, 4);
    tell(x, 1, 2);
    due("again", () -> x.combine(0, 0, 1, 0), 2);
    due("the numbers stay", () -> x.say(0), 3);
    x.hush();
    dueRows(x, 0, 4, 1, 2, 3, 1, 2, 4, 1, 4, 3, 1, 4, 4);
    box(x, 0, 0, 0, 2, 3);
    due("one corner", () -> x.combine(0, 0, 1, 2), 0);
    dueRows(x, 2, 4, 1, 2, 3);
    box(x, 0, 0, 0, 1, 1);
    due("apart", () -> x.combine(0, 0, 1, 2), -1);
    dueEmpty(x, 2);
    due("with nothing", () -> x.combine(0, 0, 2, 3), -1);
    due("nothing with", () -> x.combine(0, 2, 0, 3), -1);
    x.set(2, true);
    due("with the plane", () -> x.combine(0, 0, 2, 2), 2);
    dueRows(x, 2, 4, 1, 0, 0, 1, 0, 1, 1, 1, 0, 1, 1, 1);
    due("with itself", () -> x.combine(0, 2, 2, 2), 2);
    dueRows(x, 2, 4, 1, 0, 0, 1, 0, 1, 1, 1, 0, 1, 1, 1);
  }

  private static void combineHull() {
    about("promise 7 combine, hull");
    ConvexDesk x = new ConvexDesk();
    due("of nothing", () -> x.combine(1, 0, 1, 2), -1);
    box(x, 0, 0, 0, 1, 1);
    due("with nothing", () -> x.combine(1, 0, 1, 2), 2);
    dueRows(x, 2, 4, 1, 0, 0, 1, 0, 1, 1, 1, 0, 1, 1, 1);
    due("nothing with", () -> x.combine(1, 1, 0, 2), 2);
    dueRows(x, 2, 4, 1, 0, 0, 1, 0, 1, 1, 1, 0, 1, 1, 1);
    add(x, 1, false, 1, 5, 5);
    due("with a point", () -> x.combine(1, 0, 1, 1), 2);
    dueRows(x, 1, 4, 1, 0, 0, 1, 0, 1, 1, 1, 0, 1, 5, 5);
    x.set(2, false);
    add(x, 2, false, 1, 0, -3);
    add(x, 2, true, 0, 1, 0);
    due("with a line", () -> x.combine(1, 0, 2, 2), 2);
    dueRows(x, 2, 1, 1, 0, -1, 3, 0, 1);
    dueRows(x, 2, 4, 1, 0, -3, 1, 0, 1);
  }

  private static void combineSum() {
    about("promise 7 combine, sum");
    ConvexDesk x = new ConvexDesk();
    add(x, 0, false, 2, 1, 1);
    add(x, 1, false, 3, 1, 2);
    due("points", () -> x.combine(2, 0, 1, 2), 0);
    dueRows(x, 2, 4, 6, 5, 7);
    box(x, 0, 0, 0, 2, 1);
    x.set(1, false);
    add(x, 1, false, 1, 0, 0);
    add(x, 1, false, 1, 1, 1);
    due("box and way", () -> x.combine(2, 0, 1, 2), 2);
    dueRows(x, 2, 4, 1, 0, 0, 1, 0, 1, 1, 1, 2, 1, 2, 0, 1, 3, 1, 1, 3, 2);
    due("with nothing", () -> x.combine(2, 0, 3, 3), -1);
    dueEmpty(x, 3);
    add(x, 1, true, 0, 1, 1);
    due("nothing with a line", () -> x.combine(2, 3, 1, 3), -1);
    dueEmpty(x, 3);
    due("box and line", () -> x.combine(2, 0, 1, 3), 2);
    dueRows(x, 3, 1, 2, -1, 1, 1, 1, -1);
    x.set(0, false);
    add(x, 0, false, 1, 0, 0);
    add(x, 0, false, 0, 1, 0);
    x.set(1, false);
    add(x, 1, false, 1, 2, 0);
    add(x, 1, false, 0, -1, 0);
    due("opposite rays", () -> x.combine(2, 0, 1, 2), 1);
    dueRows(x, 2, 2, 0, 1, 0);
    dueRows(x, 2, 4, 1, 0, 0);
  }

  private static void combineRefused() {
    about("promise 7 combine, refused");
    ConvexDesk x = new ConvexDesk();
    for (int slot : WRONG_SLOTS) {
      due("one", () -> x.combine(0, slot, 0, 0), INDEX);
      due("other", () -> x.combine(0, 0, slot, 0), INDEX);
      due("to", () -> x.combine(0, 0, 0, slot), INDEX);
      due("slot before kind", () -> x.combine(9, 0, 0, slot), INDEX);
    }
    for (int kind : new int[] {-1, 3, Integer.MIN_VALUE, Integer.MAX_VALUE}) {
      due("kind", () -> x.combine(kind, 0, 0, 0), ARGUMENT);
    }
    add(x, 0, false, 1, 16, 0);
    add(x, 1, false, 1, 15, 0);
    due("too large", () -> x.combine(2, 0, 1, 0), LARGE);
    dueRows(x, 0, 4, 1, 16, 0);
    due("16 and 16", () -> x.combine(2, 0, 0, 3), LARGE);
    x.set(0, false);
    add(x, 0, false, 6, 3, 2);
    x.set(2, false);
    add(x, 2, false, 7, 1, 1);
    due("small equalities, but a large point", () -> x.combine(2, 0, 2, 2), LARGE);
    dueRows(x, 2, 4, 7, 1, 1);
    dueEmpty(x, 3);
    due("15 and 15", () -> x.combine(2, 1, 1, 3), 0);
    dueRows(x, 3, 4, 1, 30, 0);
    x.set(2, false);
    rich(x, 0);
    box(x, 1, 0, 0, 1, 1);
    due("too rich a sum", () -> x.combine(2, 0, 1, 2), STATE);
    dueEmpty(x, 2);
  }

  private static void mapForth() {
    about("promise 8 map");
    ConvexDesk x = new ConvexDesk();
    box(x, 0, 0, 0, 2, 1);
    due("turned and moved", () -> move(x, 0, false, 1, 0, -1, 1, 0, 5, 7), 2);
    dueRows(x, 1, 4, 1, 4, 7, 1, 4, 9, 1, 5, 7, 1, 5, 9);
    due("takes the numbers", () -> x.say(0), 1);
    x.hush();
    due("all to one point", () -> move(x, 0, false, 2, 0, 0, 0, 0, 5, 7), 0);
    dueRows(x, 2, 4, 1, 5, 7);
    due("onto a line", () -> move(x, 0, false, 2, 1, 1, 2, 2, 0, 1), 1);
    dueRows(x, 2, 4, 1, 0, 1, 1, 3, 7);
    dueRows(x, 2, 0, 1, 2, -1);
    due("in place", () -> move(x, 0, false, 0, 1, 0, 0, 2, 0, 0), 2);
    dueRows(x, 0, 4, 1, 0, 0, 1, 0, 2, 1, 2, 0, 1, 2, 2);
    x.set(3, true);
    due("the plane onto a line", () -> move(x, 3, false, 3, 1, 2, 0, 0, 0, 4), 1);
    dueRows(x, 3, 0, -4, 0, 1);
    dueRows(x, 3, 2, 0, 1, 0);
    x.set(3, false);
    due("nothing", () -> move(x, 3, false, 0, 1, 0, 0, 1, 0, 0), -1);
    dueEmpty(x, 0);
  }

  private static void mapBack() {
    about("promise 8 map back");
    ConvexDesk x = new ConvexDesk();
    box(x, 0, 0, 0, 2, 1);
    due("halved", () -> move(x, 0, true, 1, 2, 0, 0, 2, 0, 0), 2);
    dueRows(x, 1, 4, 1, 0, 0, 2, 0, 1, 1, 1, 0, 2, 2, 1);
    due("moved", () -> move(x, 0, true, 1, 1, 0, 0, 1, 5, 0), 2);
    dueRows(x, 1, 4, 1, -5, 0, 1, -5, 1, 1, -3, 0, 1, -3, 1);
    due("all go in", () -> move(x, 0, true, 1, 0, 0, 0, 0, 1, 1), 2);
    dueRows(x, 1, 2, 0, 1, 0, 0, 0, 1);
    due("none goes in", () -> move(x, 0, true, 1, 0, 0, 0, 0, 3, 1), -1);
    dueEmpty(x, 1);
    due("a strip goes in", () -> move(x, 0, true, 1, 1, 1, 0, 0, 0, 0), 2);
    dueRows(x, 1, 1, 2, -1, -1, 0, 1, 1);
    dueRows(x, 1, 2, 0, 1, -1);
    x.set(2, false);
    add(x, 2, false, 1, 1, 1);
    due("to a point", () -> move(x, 2, true, 2, 1, 1, 1, 1, 0, 0), 1);
    dueRows(x, 2, 0, -1, 1, 1);
    due("of nothing", () -> move(x, 3, true, 0, 1, 0, 0, 1, 0, 0), -1);
    dueEmpty(x, 0);
    x.set(3, true);
    due("of all", () -> move(x, 3, true, 0, 7, 8, 9, 10, 11, 12), 2);
    dueRows(x, 0, 1);
  }

  private static void mapRefused() {
    about("promise 8 map, refused");
    ConvexDesk x = new ConvexDesk();
    for (int slot : WRONG_SLOTS) {
      due("from", () -> x.map(slot, false, 0), INDEX);
      due("to", () -> x.map(0, true, slot), INDEX);
    }
    tell(x, 1, 0, 0, 1, 0);
    due("five numbers", () -> x.map(0, false, 0), ARGUMENT);
    due("sixth", () -> x.say(0), 6);
    x.hush();
    box(x, 0, 0, 0, 4, 4);
    due("too large", () -> move(x, 0, false, 1, 8, 0, 0, 8, 0, 0), LARGE);
    due("the numbers stay", () -> x.say(0), STATE);
    x.hush();
    dueEmpty(x, 1);
    due("too large back", () -> move(x, 0, true, 1, 7, 5, 3, -4, 0, 0), LARGE);
    x.hush();
    dueEmpty(x, 1);
    x.set(0, true);
    cut(x, 0, false, -10, 1, 0);
    cut(x, 0, false, -9, 0, 1);
    cut(x, 0, false, 20, -1, -1);
    due("small points, but a large side", () -> move(x, 0, true, 1, 1, 0, 0, 1, 30, 30), LARGE);
    x.hush();
    dueEmpty(x, 1);
    due("all small", () -> move(x, 0, true, 1, 1, 0, 0, 1, 25, 25), 2);
    dueRows(x, 1, 1, -30, -1, -1, 16, 0, 1, 15, 1, 0);
  }

  private static void maximum() {
    about("promise 9 maximum");
    ConvexDesk x = new ConvexDesk();
    due("of nothing", () -> top(x, 0, 1, 1), 0);
    due("takes the numbers", () -> x.say(0), 1);
    x.hush();
    x.set(0, true);
    due("of all", () -> top(x, 0, 1, 0), 1);
    due("of all, flat", () -> top(x, 0, 0, 0), 2);
    due("0", () -> x.greatest(0), 0);
    due("over 1", () -> x.greatest(1), 1);
    cut(x, 0, false, 7, -2, 0);
    due("along a line", () -> top(x, 0, 1, 1), 1);
    due("across it", () -> top(x, 0, 3, 0), 2);
    due("21", () -> x.greatest(0), 21);
    due("over 2", () -> x.greatest(1), 2);
    due("the other way", () -> top(x, 0, -3, 0), 1);
    cut(x, 0, false, 0, 0, 1);
    cut(x, 0, false, 5, 0, -3);
    due("beside a ray", () -> top(x, 0, 0, -6), 2);
    due("0", () -> x.greatest(0), 0);
    due("corner", () -> top(x, 0, 30, 30), 2);
    due("155", () -> x.greatest(0), 155);
    due("along the ray", () -> top(x, 0, -1, 30), 1);
    x.set(1, false);
    add(x, 1, false, 5, 4, 0);
    add(x, 1, false, 6, 5, 0);
    add(x, 1, false, 4, 3, 0);
    due("5 / 6 is more than 4 / 5 and 3 / 4", () -> top(x, 1, 1, 0), 2);
    due("5", () -> x.greatest(0), 5);
    due("over 6", () -> x.greatest(1), 6);
    x.set(1, false);
    add(x, 1, false, 1, 0, 5);
    add(x, 1, false, 2, 2, 9);
    add(x, 1, false, 1, 1, 0);
    due("5 is more than 9 / 2", () -> top(x, 1, 0, 1), 2);
    due("5", () -> x.greatest(0), 5);
    x.set(1, false);
    add(x, 1, false, 6, 5, 0);
    add(x, 1, false, 4, 3, 0);
    due("-3 / 4 is more than -5 / 6", () -> top(x, 1, -2, 0), 2);
    due("-3", () -> x.greatest(0), -3);
    due("over 2", () -> x.greatest(1), 2);
    for (int slot : WRONG_SLOTS) {
      due("slot", () -> x.maximum(slot), INDEX);
    }
    tell(x, 1);
    due("one number", () -> x.maximum(0), ARGUMENT);
    tell(x, 1, 1);
    due("three numbers", () -> x.maximum(0), ARGUMENT);
    due("they stay", () -> x.say(1), 4);
  }

  private static void greatest() {
    about("promise 10 greatest");
    ConvexDesk x = new ConvexDesk();
    due("none yet", () -> x.greatest(0), STATE);
    due("none yet, and no such i", () -> x.greatest(2), STATE);
    add(x, 0, false, 6, -2, 3);
    due("point", () -> top(x, 0, 1, 0), 2);
    due("-1", () -> x.greatest(0), -1);
    due("over 3", () -> x.greatest(1), 3);
    due("i", () -> x.greatest(2), INDEX);
    due("i", () -> x.greatest(-1), INDEX);
    due("thrown", () -> x.maximum(0), ARGUMENT);
    due("slot", () -> x.maximum(7), INDEX);
    x.set(0, false);
    due("stays when the set does not", () -> x.greatest(1), 3);
    due("empty", () -> top(x, 0, 1, 0), 0);
    due("gone", () -> x.greatest(0), STATE);
    add(x, 0, false, 1, 4, 4);
    due("back", () -> top(x, 0, 1, -1), 2);
    due("0", () -> x.greatest(0), 0);
    due("over 1", () -> x.greatest(1), 1);
    x.set(0, true);
    due("unbounded", () -> top(x, 0, 1, -1), 1);
    due("gone", () -> x.greatest(1), STATE);
  }

  private static void has() {
    about("promise 11 has");
    ConvexDesk x = new ConvexDesk();
    box(x, 0, 0, 0, 2, 1);
    due("corner", () -> in(x, 0, 1, 2, 1), true);
    due("takes the numbers", () -> x.say(0), 1);
    x.hush();
    due("inside", () -> in(x, 0, 30, 1, 29), true);
    due("outside", () -> in(x, 0, 30, 1, -1), false);
    due("of nothing", () -> in(x, 1, 1, 0, 0), false);
    x.set(1, true);
    due("of all", () -> in(x, 1, 1, 30, -30), true);
    cut(x, 1, true, -1, 2, 1);
    due("on a line", () -> in(x, 1, 2, 1, 0), true);
    due("off it", () -> in(x, 1, 2, 1, 1), false);
    due("off it", () -> in(x, 1, 2, 0, 1), false);
    for (int slot : WRONG_SLOTS) {
      due("slot", () -> x.has(slot), INDEX);
    }
    tell(x, 1, 1);
    due("two numbers", () -> x.has(0), ARGUMENT);
    tell(x, 1, 1);
    due("four numbers", () -> x.has(0), ARGUMENT);
    x.hush();
    due("g is 0", () -> in(x, 0, 0, 1, 1), ARGUMENT);
    due("the numbers stay", () -> x.say(0), 4);
    x.hush();
    due("g is below 0", () -> in(x, 1, -1, 1, 1), ARGUMENT);
  }

  private static void includes() {
    about("promise 12 includes");
    ConvexDesk x = new ConvexDesk();
    due("nothing nothing", () -> x.includes(0, 1), true);
    box(x, 0, 0, 0, 4, 4);
    box(x, 1, 1, 1, 4, 2);
    due("nothing", () -> x.includes(0, 3), true);
    due("in nothing", () -> x.includes(3, 0), false);
    due("smaller", () -> x.includes(0, 1), true);
    due("larger", () -> x.includes(1, 0), false);
    due("itself", () -> x.includes(1, 1), true);
    x.set(3, true);
    due("the plane has all", () -> x.includes(3, 0), true);
    due("all is not in a box", () -> x.includes(0, 3), false);
    cut(x, 3, false, 0, 1, 0);
    due("a half-plane has the box", () -> x.includes(3, 0), true);
    x.set(2, false);
    add(x, 2, false, 1, 1, 1);
    add(x, 2, false, 0, 1, -5);
    due("a half-line within", () -> x.includes(3, 2), true);
    add(x, 2, true, 0, 1, -5);
    due("its line is not", () -> x.includes(3, 2), false);
    x.set(2, false);
    add(x, 2, false, 1, 1, 1);
    add(x, 2, true, 0, 0, 1);
    due("a line along it is", () -> x.includes(3, 2), true);
    for (int slot : WRONG_SLOTS) {
      due("one", () -> x.includes(slot, 0), INDEX);
      due("other", () -> x.includes(0, slot), INDEX);
    }
  }

  private static void dimension() {
    about("promise 13 dimension");
    ConvexDesk x = new ConvexDesk();
    due("nothing", () -> x.dimension(0), -1);
    add(x, 0, false, 1, 1, 1);
    due("point", () -> x.dimension(0), 0);
    add(x, 0, false, 1, 2, 2);
    due("way", () -> x.dimension(0), 1);
    add(x, 0, false, 0, 0, 1);
    due("area", () -> x.dimension(0), 2);
    for (int slot : WRONG_SLOTS) {
      due("slot", () -> x.dimension(slot), INDEX);
    }
  }

  private static void rows() {
    about("promise 14 rows");
    ConvexDesk x = new ConvexDesk();
    add(x, 0, false, 1, 0, 0);
    add(x, 0, false, 0, 1, 0);
    int[] dues = {1, 1, 0, 1, 1};
    for (int kind = 0; kind < 5; kind++) {
      final int of = kind;
      due("half-line", () -> x.rows(0, of), dues[kind]);
    }
    for (int slot : WRONG_SLOTS) {
      due("slot", () -> x.rows(slot, 0), INDEX);
      due("slot before kind", () -> x.rows(slot, 5), INDEX);
    }
    for (int kind : new int[] {-1, 5, Integer.MIN_VALUE, Integer.MAX_VALUE}) {
      due("kind", () -> x.rows(0, kind), ARGUMENT);
    }
  }

  private static void row() {
    about("promise 15 row");
    ConvexDesk x = new ConvexDesk();
    x.set(0, true);
    due("line", () -> x.row(0, 2, 1, 2), 1);
    for (int slot : WRONG_SLOTS) {
      due("slot", () -> x.row(slot, 9, 0, 0), INDEX);
    }
    for (int j : new int[] {-1, 3, Integer.MIN_VALUE, Integer.MAX_VALUE}) {
      due("number", () -> x.row(0, 2, 0, j), INDEX);
      due("number before kind", () -> x.row(0, 9, 0, j), INDEX);
    }
    for (int i : new int[] {-1, Integer.MIN_VALUE}) {
      due("i below 0", () -> x.row(0, 2, i, 0), INDEX);
      due("i below 0 before kind", () -> x.row(0, 5, i, 0), INDEX);
    }
    for (int i : new int[] {2, 3, 16, 1 << 30, Integer.MAX_VALUE}) {
      due("no such row", () -> x.row(0, 2, i, 0), INDEX);
      due("no such kind", () -> x.row(0, 5, i, 0), ARGUMENT);
      due("no such kind", () -> x.row(0, -1, i, 0), ARGUMENT);
    }
    for (int kind = 0; kind < 5; kind++) {
      final int of = kind;
      due("of nothing", () -> x.row(1, of, 0, 0), INDEX);
    }
  }

  private static void rowForms() {
    about("terms, the form of the rows");
    ConvexDesk x = new ConvexDesk();
    x.set(0, true);
    cut(x, 0, true, 6, 0, -4);
    dueRows(x, 0, 0, -3, 0, 2);
    dueRows(x, 0, 2, 0, 1, 0);
    dueRows(x, 0, 4, 2, 0, 3);
    cut(x, 0, false, 1, 3, 2);
    dueRows(x, 0, 1, 4, 3, 0);
    dueRows(x, 0, 3, 0, 1, 0);
    dueRows(x, 0, 4, 6, -8, 9);
    x.set(1, true);
    cut(x, 1, false, 5, 0, 3);
    dueRows(x, 1, 1, 5, 0, 3);
    dueRows(x, 1, 2, 0, 1, 0);
    dueRows(x, 1, 3, 0, 0, 1);
    dueRows(x, 1, 4, 3, 0, -5);
    x.set(2, true);
    cut(x, 2, false, 4, -2, 0);
    dueRows(x, 2, 1, 2, -1, 0);
    dueRows(x, 2, 2, 0, 0, 1);
    dueRows(x, 2, 3, 0, -1, 0);
    dueRows(x, 2, 4, 1, 2, 0);
  }

  private static void rowOrder() {
    about("terms, the order of the rows");
    ConvexDesk x = new ConvexDesk();
    add(x, 0, false, 2, 1, 1);
    add(x, 0, false, 3, 1, 9);
    add(x, 0, false, 1, -1, 4);
    add(x, 0, false, 3, 1, 2);
    dueRows(x, 0, 4, 1, -1, 4, 3, 1, 2, 3, 1, 9, 2, 1, 1);
    x.set(3, true);
    cut(x, 3, true, -1, 2, 0);
    cut(x, 3, false, -2, 0, 3);
    cut(x, 3, false, 3, 0, -4);
    dueRows(x, 3, 4, 6, 3, 4, 4, 2, 3);
    add(x, 1, false, 1, 0, 0);
    add(x, 1, false, 0, 1, 2);
    add(x, 1, false, 0, 1, -3);
    dueRows(x, 1, 3, 0, 1, -3, 0, 1, 2);
    dueRows(x, 1, 1, 0, 2, -1, 0, 3, 1);
    x.set(2, true);
    cut(x, 2, false, 9, -1, -1);
    cut(x, 2, false, 2, 1, 0);
    cut(x, 2, false, 3, 0, 1);
    cut(x, 2, false, 4, -1, 1);
    cut(x, 2, false, 4, 1, -1);
    dueRows(x, 2, 1, 9, -1, -1, 4, -1, 1, 3, 0, 1, 4, 1, -1, 2, 1, 0);
  }
}
