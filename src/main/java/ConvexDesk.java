/**
 * Convex sets of the plane, reckoned exactly, each kept by its constraints and by its generators.
 *
 * <p>A set is seen as a cone of triples: its point (x / g, y / g) is the triple (g, x, y), its rays
 * and lines are triples with g = 0. A constraint (c, a, b) asks that c g + a x + b y is not below 0.
 * The triples that keep all constraints make one cone, and the constraints that all triples keep
 * make another: so one way of cutting a cone finds generators from constraints and constraints from
 * generators.
 */
public final class ConvexDesk {
  private static final int SLOTS = 4;
  private static final int MOST_NUMBERS = 6;
  private static final int LARGEST = 30;
  private static final int MOST_ROWS = 12;

  private static final int EQUALITIES = 0;
  private static final int INEQUALITIES = 1;
  private static final int LINES = 2;
  private static final int RAYS = 3;
  private static final int POINTS = 4;

  private static final int BOTH = 0;
  private static final int HULL = 1;
  private static final int SUM = 2;

  private static final int NO_MAXIMUM = -1;
  private static final int NOTHING = 0;
  private static final int UNBOUNDED = 1;
  private static final int BOUNDED = 2;

  private static final int MOST_LINES = 3;
  // The sum of two sets of 12 points goes through at most 36 edges; all else needs fewer.
  private static final int MOST_EDGES = 48;
  // Euclid's steps for numbers below 2^63 are fewer than 100.
  private static final int MOST_STEPS = 1000;

  private final int[] numbers;
  private int said;
  private final Shape[] shapes;
  // A new set is made here and then changes places with a slot's: what throws has changed no slot.
  private Shape draft;
  private int latest;
  private int numerator;
  private int denominator;

  public ConvexDesk() {
    Rows scratch = new Rows(MOST_EDGES);
    numbers = new int[MOST_NUMBERS];
    shapes = new Shape[SLOTS];
    for (int i = 0; i < SLOTS; i++) {
      shapes[i] = new Shape(scratch);
    }
    draft = new Shape(scratch);
    latest = NO_MAXIMUM;
  }

  public int say(int number) throws IllegalArgumentException, IllegalStateException {
    if (number < -LARGEST || number > LARGEST) {
      throw new IllegalArgumentException("the number is not -30 .. 30");
    }
    if (said >= MOST_NUMBERS) {
      throw new IllegalStateException("there are six numbers");
    }
    numbers[said] = number;
    said++;
    return said;
  }

  public void hush() {
    said = 0;
  }

  public void set(int slot, boolean plane) throws IndexOutOfBoundsException {
    Shape shape = shapeAt(slot);
    shape.clear();
    if (plane) {
      shape.generators.startFromPlane();
      shape.generators.settle();
    }
  }

  public int constrain(int slot, boolean equality)
      throws IndexOutOfBoundsException, IllegalArgumentException, ArithmeticException,
          IllegalStateException {
    Shape shape = shapeAt(slot);
    requireNumbers(3);
    Cone generators = draft.generators;
    generators.startFromPlane();
    generators.cutByConstraintsOf(shape);
    generators.cut(numbers[0], numbers[1], numbers[2]);
    if (equality) {
      generators.cut(-numbers[0], -numbers[1], -numbers[2]);
    }
    finishFromGenerators();
    said = 0;
    return keepDraft(slot);
  }

  public int generate(int slot, boolean both)
      throws IndexOutOfBoundsException, IllegalArgumentException, UnsupportedOperationException,
          ArithmeticException, IllegalStateException {
    Shape shape = shapeAt(slot);
    requireNumbers(3);
    requireGenerator(both);
    if (shape.isEmpty() && numbers[0] == 0) {
      throw new UnsupportedOperationException("the set is empty and this is no point");
    }
    Cone constraints = draft.constraints;
    constraints.startFromAll();
    constraints.cutByAll(shape.generators);
    constraints.cut(numbers[0], numbers[1], numbers[2]);
    if (both) {
      constraints.cut(-numbers[0], -numbers[1], -numbers[2]);
    }
    finishFromConstraints();
    said = 0;
    return keepDraft(slot);
  }

  public int combine(int kind, int one, int other, int to)
      throws IndexOutOfBoundsException, IllegalArgumentException, ArithmeticException,
          IllegalStateException {
    Shape first = shapeAt(one);
    Shape second = shapeAt(other);
    shapeAt(to);
    switch (kind) {
      case BOTH:
        draft.generators.startFromPlane();
        draft.generators.cutByConstraintsOf(first);
        draft.generators.cutByConstraintsOf(second);
        finishFromGenerators();
        break;
      case HULL:
        draft.constraints.startFromAll();
        draft.constraints.cutByAll(first.generators);
        draft.constraints.cutByAll(second.generators);
        finishFromConstraints();
        break;
      case SUM:
        draft.constraints.startFromAll();
        cutBySums(first, second);
        finishFromConstraints();
        break;
      default:
        throw new IllegalArgumentException("there is no such kind");
    }
    return keepDraft(to);
  }

  public int map(int from, boolean back, int to)
      throws IndexOutOfBoundsException, IllegalArgumentException, ArithmeticException,
          IllegalStateException {
    Shape shape = shapeAt(from);
    shapeAt(to);
    requireNumbers(6);
    if (back) {
      cutByOrigins(shape);
      finishFromGenerators();
    } else {
      cutByImages(shape);
      finishFromConstraints();
    }
    said = 0;
    return keepDraft(to);
  }

  public int maximum(int slot) throws IndexOutOfBoundsException, IllegalArgumentException {
    Shape shape = shapeAt(slot);
    requireNumbers(2);
    long a = numbers[0];
    long b = numbers[1];
    if (shape.isEmpty()) {
      latest = NOTHING;
    } else if (shape.climbs(a, b)) {
      latest = UNBOUNDED;
    } else {
      latest = BOUNDED;
      keepGreatest(shape.generators.edges, a, b);
    }
    said = 0;
    return latest;
  }

  public int greatest(int i) throws IllegalStateException, IndexOutOfBoundsException {
    if (latest != BOUNDED) {
      throw new IllegalStateException("the latest maximum found no greatest value");
    }
    if (i != 0 && i != 1) {
      throw new IndexOutOfBoundsException("neither numerator nor denominator");
    }
    return i == 0 ? numerator : denominator;
  }

  public boolean has(int slot) throws IndexOutOfBoundsException, IllegalArgumentException {
    Shape shape = shapeAt(slot);
    requireNumbers(3);
    if (numbers[0] <= 0) {
      throw new IllegalArgumentException("this is no point");
    }
    said = 0;
    return !shape.isEmpty() && shape.constraints.allow(numbers[0], numbers[1], numbers[2]);
  }

  public boolean includes(int one, int other) throws IndexOutOfBoundsException {
    Shape outer = shapeAt(one);
    Shape inner = shapeAt(other);
    if (inner.isEmpty()) {
      return true;
    }
    return !outer.isEmpty() && outer.constraints.allowAll(inner.generators);
  }

  public int dimension(int slot) throws IndexOutOfBoundsException {
    return shapeAt(slot).degree();
  }

  public int rows(int slot, int kind) throws IndexOutOfBoundsException, IllegalArgumentException {
    Shape shape = shapeAt(slot);
    if (!isKind(kind)) {
      throw new IllegalArgumentException("there is no such kind");
    }
    return shape.countOf(kind);
  }

  public int row(int slot, int kind, int i, int j)
      throws IndexOutOfBoundsException, IllegalArgumentException {
    Shape shape = shapeAt(slot);
    if (j < 0 || j > 2) {
      throw new IndexOutOfBoundsException("there is no such number in a row");
    }
    if (i < 0) {
      throw new IndexOutOfBoundsException("there is no row below 0");
    }
    if (!isKind(kind)) {
      throw new IllegalArgumentException("there is no such kind");
    }
    if (i >= shape.countOf(kind)) {
      throw new IndexOutOfBoundsException("there is no such row");
    }
    return (int) shape.cellOf(kind, i, j);
  }

  private Shape shapeAt(int slot) {
    if (slot < 0 || slot >= SLOTS) {
      throw new IndexOutOfBoundsException("there is no such slot");
    }
    return shapes[slot];
  }

  private void requireNumbers(int wanted) {
    if (said != wanted) {
      throw new IllegalArgumentException("there are more or fewer numbers");
    }
  }

  private void requireGenerator(boolean both) {
    if (numbers[0] < 0) {
      throw new IllegalArgumentException("g is below 0");
    }
    if (numbers[0] == 0 && numbers[1] == 0 && numbers[2] == 0) {
      throw new IllegalArgumentException("all numbers are 0");
    }
    if (numbers[0] > 0 && both) {
      throw new IllegalArgumentException("a point is no line");
    }
  }

  private static boolean isKind(int kind) {
    return kind >= EQUALITIES && kind <= POINTS;
  }

  private int keepDraft(int slot) {
    Shape kept = draft;
    draft = shapeAt(slot);
    shapes[slot] = kept;
    return kept.degree();
  }

  private void cutBySums(Shape first, Shape second) {
    if (first.isEmpty() || second.isEmpty()) {
      return;
    }
    cutByPointSums(first.generators.edges, second.generators.edges);
    cutByDirections(first.generators);
    cutByDirections(second.generators);
  }

  private void cutByPointSums(Rows ones, Rows others) {
    for (int i = 0; i < ones.count(); i++) {
      for (int k = 0; k < others.count(); k++) {
        long g = ones.at(i, 0);
        long h = others.at(k, 0);
        if (g > 0 && h > 0) {
          draft.constraints.cut(
              g * h,
              ones.at(i, 1) * h + others.at(k, 1) * g,
              ones.at(i, 2) * h + others.at(k, 2) * g);
        }
      }
    }
  }

  private void cutByDirections(Cone generators) {
    Rows lines = generators.lines;
    for (int i = 0; i < lines.count(); i++) {
      draft.constraints.cut(0, lines.at(i, 1), lines.at(i, 2));
      draft.constraints.cut(0, -lines.at(i, 1), -lines.at(i, 2));
    }
    Rows edges = generators.edges;
    for (int i = 0; i < generators.rayCount(); i++) {
      draft.constraints.cut(0, edges.at(i, 1), edges.at(i, 2));
    }
  }

  private void cutByImages(Shape shape) {
    draft.constraints.startFromAll();
    cutByImagesOf(shape.generators.lines, true);
    cutByImagesOf(shape.generators.edges, false);
  }

  private void cutByImagesOf(Rows generators, boolean bothWays) {
    for (int i = 0; i < generators.count(); i++) {
      long g = generators.at(i, 0);
      long x = generators.at(i, 1);
      long y = generators.at(i, 2);
      long toX = numbers[0] * x + numbers[1] * y + numbers[4] * g;
      long toY = numbers[2] * x + numbers[3] * y + numbers[5] * g;
      draft.constraints.cut(g, toX, toY);
      if (bothWays) {
        draft.constraints.cut(-g, -toX, -toY);
      }
    }
  }

  private void cutByOrigins(Shape shape) {
    draft.generators.startFromPlane();
    if (shape.isEmpty()) {
      draft.generators.clear();
    }
    cutByOriginsOf(shape.constraints.lines, true);
    cutByOriginsOf(shape.constraints.edges, false);
  }

  private void cutByOriginsOf(Rows constraints, boolean bothWays) {
    for (int i = 0; i < constraints.count(); i++) {
      long a = constraints.at(i, 1);
      long b = constraints.at(i, 2);
      long ofOne = constraints.at(i, 0) + a * numbers[4] + b * numbers[5];
      long ofX = a * numbers[0] + b * numbers[2];
      long ofY = a * numbers[1] + b * numbers[3];
      draft.generators.cut(ofOne, ofX, ofY);
      if (bothWays) {
        draft.generators.cut(-ofOne, -ofX, -ofY);
      }
    }
  }

  /** Settles the draft's generators, which have been cut, and finds its constraints. */
  private void finishFromGenerators() {
    draft.generators.settle();
    if (!draft.hasPoint()) {
      draft.clear();
      return;
    }
    // Refusing large numbers between the halves keeps those of the second half far below 2^63.
    requireSmall(draft.generators);
    draft.constraints.startFromAll();
    draft.constraints.cutByAll(draft.generators);
    draft.constraints.settle();
    requireSmall(draft.constraints);
    requirePlain();
  }

  /** Settles the draft's constraints, which have been cut, and finds its generators. */
  private void finishFromConstraints() {
    draft.constraints.settle();
    requireSmall(draft.constraints);
    draft.generators.startFromPlane();
    draft.generators.cutByAll(draft.constraints);
    draft.generators.settle();
    // Where nothing has been cut off, 1 = 0 is one of the constraints.
    if (!draft.hasPoint()) {
      draft.clear();
      return;
    }
    requireSmall(draft.generators);
    requirePlain();
  }

  private void requireSmall(Cone cone) {
    if (!cone.lines.isWithin(LARGEST) || !cone.edges.isWithin(LARGEST)) {
      throw new ArithmeticException("the set would be too large");
    }
  }

  private void requirePlain() {
    if (draft.constraints.edges.count() > MOST_ROWS || draft.generators.edges.count() > MOST_ROWS) {
      throw new IllegalStateException("the set would be too rich");
    }
  }

  private void keepGreatest(Rows edges, long a, long b) {
    long top = 0;
    long bottom = 0;
    for (int i = 0; i < edges.count(); i++) {
      long g = edges.at(i, 0);
      long value = edges.product(i, 0, a, b);
      if (g > 0 && (bottom == 0 || value * bottom > top * g)) {
        top = value;
        bottom = g;
      }
    }
    long divisor = commonDivisor(top, bottom);
    if (divisor > 0) {
      numerator = (int) (top / divisor);
      denominator = (int) (bottom / divisor);
    }
  }

  private static long commonDivisor(long one, long other) {
    long high = one < 0 ? -one : one;
    long low = other < 0 ? -other : other;
    for (int step = 0; step < MOST_STEPS && low != 0; step++) {
      long rest = high % low;
      high = low;
      low = rest;
    }
    return high;
  }

  /** Rows of three whole numbers, one behind the other. */
  private static final class Rows {
    private final long[] cells;
    private int count;

    Rows(int room) {
      cells = new long[room > 0 ? 3 * room : 0];
    }

    int count() {
      return count;
    }

    void clear() {
      count = 0;
    }

    long at(int i, int j) {
      int place = 3 * i + j;
      return place >= 0 && place < cells.length ? cells[place] : 0;
    }

    void write(int i, long first, long second, long third) {
      int place = 3 * i;
      if (place >= 0 && place + 2 < cells.length) {
        cells[place] = first;
        cells[place + 1] = second;
        cells[place + 2] = third;
      }
    }

    void add(long first, long second, long third) {
      if (3 * count + 2 < cells.length) {
        write(count, first, second, third);
        count++;
      }
    }

    void copyFrom(Rows other) {
      for (int i = 0; i < other.count; i++) {
        write(i, other.at(i, 0), other.at(i, 1), other.at(i, 2));
      }
      count = other.count;
    }

    void remove(int i) {
      for (int k = i; k + 1 < count; k++) {
        write(k, at(k + 1, 0), at(k + 1, 1), at(k + 1, 2));
      }
      count = count > 0 ? count - 1 : 0;
    }

    void swap(int i, int k) {
      long first = at(i, 0);
      long second = at(i, 1);
      long third = at(i, 2);
      write(i, at(k, 0), at(k, 1), at(k, 2));
      write(k, first, second, third);
    }

    void negate(int i) {
      write(i, -at(i, 0), -at(i, 1), -at(i, 2));
    }

    long product(int i, long first, long second, long third) {
      return at(i, 0) * first + at(i, 1) * second + at(i, 2) * third;
    }

    /** Row i becomes a sum of multiples of itself and of another row, less any common divisor. */
    void mix(int i, long own, long its, Rows other, int k) {
      long first = own * at(i, 0) + its * other.at(k, 0);
      long second = own * at(i, 1) + its * other.at(k, 1);
      long third = own * at(i, 2) + its * other.at(k, 2);
      long divisor = commonDivisor(commonDivisor(first, second), third);
      if (divisor > 0) {
        write(i, first / divisor, second / divisor, third / divisor);
      }
    }

    /** Every row, or every one but one, gets 0 where row k of the others has its pivot. */
    void clearColumn(int column, Rows other, int k, int spared) {
      for (int i = 0; i < count; i++) {
        if (i != spared && at(i, column) != 0) {
          mix(i, other.at(k, column), -at(i, column), other, k);
        }
      }
    }

    int firstWith(int column, int from) {
      for (int i = from; i < count; i++) {
        if (at(i, column) != 0) {
          return i;
        }
      }
      return -1;
    }

    boolean isWithin(long bound) {
      for (int i = 0; i < count; i++) {
        for (int j = 0; j < 3; j++) {
          if (at(i, j) < -bound || at(i, j) > bound) {
            return false;
          }
        }
      }
      return true;
    }
  }

  /**
   * A cone of triples: all sums of multiples of its lines and of multiples not below 0 of its edges,
   * of which none can be spared. While it is cut, its edges stand as they follow one another round
   * it; once it is settled, they stand in the document's order, and it is cut no more.
   */
  private static final class Cone {
    private final boolean ofGenerators;
    final Rows lines;
    final Rows edges;
    private final Rows scratch;

    Cone(boolean ofGenerators, Rows scratch) {
      this.ofGenerators = ofGenerators;
      this.scratch = scratch;
      lines = new Rows(MOST_LINES);
      edges = new Rows(MOST_EDGES);
    }

    void clear() {
      lines.clear();
      edges.clear();
    }

    void startFromAll() {
      clear();
      lines.add(1, 0, 0);
      lines.add(0, 1, 0);
      lines.add(0, 0, 1);
    }

    /** Of generators g is never below 0. */
    void startFromPlane() {
      startFromAll();
      cut(1, 0, 0);
    }

    /** An empty set keeps no constraints, but leaves nothing. */
    void cutByConstraintsOf(Shape shape) {
      if (shape.isEmpty()) {
        clear();
      }
      cutByAll(shape.constraints);
    }

    void cutByAll(Cone other) {
      Rows both = other.lines;
      for (int i = 0; i < both.count(); i++) {
        cut(both.at(i, 0), both.at(i, 1), both.at(i, 2));
        cut(-both.at(i, 0), -both.at(i, 1), -both.at(i, 2));
      }
      Rows single = other.edges;
      for (int i = 0; i < single.count(); i++) {
        cut(single.at(i, 0), single.at(i, 1), single.at(i, 2));
      }
    }

    /** Leaves the triples whose product with this one is not below 0. */
    void cut(long first, long second, long third) {
      for (int i = 0; i < lines.count(); i++) {
        if (lines.product(i, first, second, third) != 0) {
          cutLine(i, first, second, third);
          return;
        }
      }
      for (int i = 0; i < edges.count(); i++) {
        if (edges.product(i, first, second, third) < 0) {
          cutEdges(first, second, third);
          return;
        }
      }
    }

    /** Half of the line stays, as an edge; along it all others slide to where the product is 0. */
    private void cutLine(int halved, long first, long second, long third) {
      if (lines.product(halved, first, second, third) < 0) {
        lines.negate(halved);
      }
      long slope = lines.product(halved, first, second, third);
      for (int i = 0; i < lines.count(); i++) {
        if (i != halved) {
          lines.mix(i, slope, -lines.product(i, first, second, third), lines, halved);
        }
      }
      for (int i = 0; i < edges.count(); i++) {
        edges.mix(i, slope, -edges.product(i, first, second, third), lines, halved);
      }
      edges.add(lines.at(halved, 0), lines.at(halved, 1), lines.at(halved, 2));
      lines.remove(halved);
    }

    /** Between an edge that stays and the next one round the cone, if it goes, a new one arises. */
    private void cutEdges(long first, long second, long third) {
      scratch.clear();
      int all = edges.count();
      for (int i = 0; i < all; i++) {
        int next = i + 1 < all ? i + 1 : 0;
        long here = edges.product(i, first, second, third);
        long there = edges.product(next, first, second, third);
        if (here >= 0) {
          scratch.add(edges.at(i, 0), edges.at(i, 1), edges.at(i, 2));
        }
        // Two edges have one side between them, three or more have one behind the last as well.
        boolean hasSide = next > 0 || all > 2;
        if (hasSide && (here < 0 && there > 0 || here > 0 && there < 0)) {
          scratch.add(edges.at(i, 0), edges.at(i, 1), edges.at(i, 2));
          scratch.mix(scratch.count() - 1, Math.abs(there), Math.abs(here), edges, next);
        }
      }
      edges.copyFrom(scratch);
    }

    /** Brings the rows into the one form that equal sets share. */
    void settle() {
      int settled = 0;
      for (int column = 1; column <= 2; column++) {
        int found = lines.firstWith(column, settled);
        if (found >= 0) {
          lines.swap(settled, found);
          if (lines.at(settled, column) < 0) {
            lines.negate(settled);
          }
          lines.clearColumn(column, lines, settled, settled);
          edges.clearColumn(column, lines, settled, -1);
          settled++;
        }
      }
      if (!ofGenerators) {
        dropIdle();
      }
      sortEdges();
    }

    /** That g is not below 0 can be an edge of the constraints, but it asks nothing of points. */
    private void dropIdle() {
      for (int i = edges.count() - 1; i >= 0; i--) {
        if (edges.at(i, 1) == 0 && edges.at(i, 2) == 0) {
          edges.remove(i);
        }
      }
    }

    private void sortEdges() {
      for (int i = 1; i < edges.count(); i++) {
        for (int k = i; k > 0 && isBefore(k, k - 1); k--) {
          edges.swap(k, k - 1);
        }
      }
    }

    private boolean isBefore(int i, int k) {
      if (isRay(i) != isRay(k)) {
        return isRay(i);
      }
      int bySecond = Long.compare(edges.at(i, 1) * weight(k), edges.at(k, 1) * weight(i));
      if (bySecond != 0) {
        return bySecond < 0;
      }
      int byThird = Long.compare(edges.at(i, 2) * weight(k), edges.at(k, 2) * weight(i));
      if (byThird != 0) {
        return byThird < 0;
      }
      return edges.at(i, 0) < edges.at(k, 0);
    }

    private boolean isRay(int i) {
      return ofGenerators && edges.at(i, 0) == 0;
    }

    /** Points are ordered as fractions, all other rows by their numbers as they stand. */
    private long weight(int i) {
      return ofGenerators && edges.at(i, 0) > 0 ? edges.at(i, 0) : 1;
    }

    int rayCount() {
      int rays = 0;
      for (int i = 0; i < edges.count(); i++) {
        if (isRay(i)) {
          rays++;
        }
      }
      return rays;
    }

    boolean allow(long first, long second, long third) {
      for (int i = 0; i < lines.count(); i++) {
        if (lines.product(i, first, second, third) != 0) {
          return false;
        }
      }
      for (int i = 0; i < edges.count(); i++) {
        if (edges.product(i, first, second, third) < 0) {
          return false;
        }
      }
      return true;
    }

    boolean allowAll(Cone other) {
      for (int i = 0; i < other.lines.count(); i++) {
        if (!allow(other.lines.at(i, 0), other.lines.at(i, 1), other.lines.at(i, 2))
            || !allow(-other.lines.at(i, 0), -other.lines.at(i, 1), -other.lines.at(i, 2))) {
          return false;
        }
      }
      for (int i = 0; i < other.edges.count(); i++) {
        if (!allow(other.edges.at(i, 0), other.edges.at(i, 1), other.edges.at(i, 2))) {
          return false;
        }
      }
      return true;
    }
  }

  /** A set of the plane by the cone of its constraints and the cone of its generators. */
  private static final class Shape {
    final Cone constraints;
    final Cone generators;

    Shape(Rows scratch) {
      constraints = new Cone(false, scratch);
      generators = new Cone(true, scratch);
    }

    void clear() {
      constraints.clear();
      generators.clear();
    }

    boolean isEmpty() {
      return generators.edges.count() == 0;
    }

    boolean hasPoint() {
      return generators.rayCount() < generators.edges.count();
    }

    int degree() {
      return isEmpty() ? -1 : 2 - constraints.lines.count();
    }

    /** Whether a x + b y grows without end along a line or a ray. */
    boolean climbs(long a, long b) {
      for (int i = 0; i < generators.lines.count(); i++) {
        if (generators.lines.product(i, 0, a, b) != 0) {
          return true;
        }
      }
      for (int i = 0; i < generators.rayCount(); i++) {
        if (generators.edges.product(i, 0, a, b) > 0) {
          return true;
        }
      }
      return false;
    }

    int countOf(int kind) {
      switch (kind) {
        case EQUALITIES:
          return constraints.lines.count();
        case INEQUALITIES:
          return constraints.edges.count();
        case LINES:
          return generators.lines.count();
        case RAYS:
          return generators.rayCount();
        default:
          return generators.edges.count() - generators.rayCount();
      }
    }

    long cellOf(int kind, int i, int j) {
      switch (kind) {
        case EQUALITIES:
          return constraints.lines.at(i, j);
        case INEQUALITIES:
          return constraints.edges.at(i, j);
        case LINES:
          return generators.lines.at(i, j);
        case RAYS:
          return generators.edges.at(i, j);
        default:
          return generators.edges.at(generators.rayCount() + i, j);
      }
    }
  }
}
