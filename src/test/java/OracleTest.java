import java.math.BigInteger;
import java.util.ArrayList;
import java.util.Arrays;
import java.util.Comparator;
import java.util.List;
import java.util.Random;

/**
 * Runs of chosen calls, each answered by ConvexDesk and by a slow model that follows the document
 * by trying all pairs of rows. After each change the counts of the slot's rows are compared, often the
 * rows too, and at a run's end those of all slots. No object is used for more than 512 calls.
 */
public final class OracleTest {
  private static final int LARGE = 1;
  private static final int RICH = 2;
  private static final int MOST_CALLS = 512;
  // A step makes fewer calls than this, and so does comparing one slot's rows.
  private static final int CALLS_OF_A_STEP = 130;

  // The sides of a polygon with 16 corners, one behind the other.
  private static final int[][] SIDES = {
    {1, 0}, {2, 1}, {1, 1}, {1, 2}, {0, 1}, {-1, 2}, {-1, 1}, {-2, 1},
    {-1, 0}, {-2, -1}, {-1, -1}, {-1, -2}, {0, -1}, {1, -2}, {1, -1}, {2, -1}
  };

  private static int wrong = 0;
  private static final int[] outcomes = new int[3];

  public static void main(String[] args) {
    int runs = args.length > 0 ? Integer.parseInt(args[0]) : 400;
    for (int seed = 0; seed < runs; seed++) {
      if (seed % 6 == 5) {
        new Run(seed).goRound();
      } else {
        new Run(seed).go();
      }
      if (wrong > 20) {
        break;
      }
    }
    System.out.println(
        "changes kept " + outcomes[0] + ", too large " + outcomes[1] + ", too rich " + outcomes[2]);
    if (outcomes[0] == 0 || outcomes[1] == 0 || outcomes[2] == 0) {
      System.out.println("a kind of outcome was never met");
      wrong++;
    }
    System.out.println(wrong == 0 ? "all answers are as due" : wrong + " answers are not as due");
    if (wrong != 0) {
      System.exit(1);
    }
  }

  // ---------------------------------------------------------------- triples of big whole numbers

  private static BigInteger[] triple(long a, long b, long c) {
    return new BigInteger[] {BigInteger.valueOf(a), BigInteger.valueOf(b), BigInteger.valueOf(c)};
  }

  private static BigInteger dot(BigInteger[] u, BigInteger[] v) {
    return u[0].multiply(v[0]).add(u[1].multiply(v[1])).add(u[2].multiply(v[2]));
  }

  private static BigInteger[] cross(BigInteger[] u, BigInteger[] v) {
    return new BigInteger[] {
      u[1].multiply(v[2]).subtract(u[2].multiply(v[1])),
      u[2].multiply(v[0]).subtract(u[0].multiply(v[2])),
      u[0].multiply(v[1]).subtract(u[1].multiply(v[0]))
    };
  }

  private static BigInteger[] neg(BigInteger[] u) {
    return new BigInteger[] {u[0].negate(), u[1].negate(), u[2].negate()};
  }

  private static boolean zero(BigInteger[] u) {
    return u[0].signum() == 0 && u[1].signum() == 0 && u[2].signum() == 0;
  }

  private static BigInteger[] lowest(BigInteger[] u) {
    BigInteger d = u[0].gcd(u[1]).gcd(u[2]);
    if (d.signum() == 0) {
      return u;
    }
    return new BigInteger[] {u[0].divide(d), u[1].divide(d), u[2].divide(d)};
  }

  private static void addNew(List<BigInteger[]> list, BigInteger[] row) {
    BigInteger[] low = lowest(row);
    for (BigInteger[] old : list) {
      if (Arrays.equals(old, low)) {
        return;
      }
    }
    list.add(low);
  }

  private static BigInteger[] withoutColumn(BigInteger[] row, BigInteger[] by, int column) {
    BigInteger[] made = new BigInteger[3];
    for (int j = 0; j < 3; j++) {
      made[j] = row[j].multiply(by[column]).subtract(by[j].multiply(row[column]));
    }
    return lowest(made);
  }

  // ---------------------------------------------------------------- the model of a set

  /** All five lists of rows of a set; empty sets have no points. */
  private static final class Model {
    final List<List<BigInteger[]>> kinds = new ArrayList<>();

    Model() {
      for (int k = 0; k < 5; k++) {
        kinds.add(new ArrayList<>());
      }
    }

    boolean empty() {
      return kinds.get(4).isEmpty();
    }

    int dimension() {
      return empty() ? -1 : 2 - kinds.get(0).size();
    }

    List<BigInteger[]> halves() {
      return bothWays(0, 1);
    }

    List<BigInteger[]> makers() {
      List<BigInteger[]> all = bothWays(2, 3);
      all.addAll(kinds.get(4));
      return all;
    }

    private List<BigInteger[]> bothWays(int doubled, int single) {
      List<BigInteger[]> all = new ArrayList<>();
      for (BigInteger[] r : kinds.get(doubled)) {
        all.add(r);
        all.add(neg(r));
      }
      all.addAll(kinds.get(single));
      return all;
    }

    boolean large() {
      BigInteger most = BigInteger.valueOf(30);
      for (List<BigInteger[]> rows : kinds) {
        for (BigInteger[] r : rows) {
          for (BigInteger n : r) {
            if (n.abs().compareTo(most) > 0) {
              return true;
            }
          }
        }
      }
      return false;
    }

    boolean rich() {
      return kinds.get(1).size() > 12 || kinds.get(3).size() + kinds.get(4).size() > 12;
    }
  }

  private static int[][] corners() {
    int[][] corners = new int[SIDES.length][];
    int x = 0;
    int y = -4;
    for (int i = 0; i < SIDES.length; i++) {
      corners[i] = new int[] {x, y};
      x += SIDES[i][0];
      y += SIDES[i][1];
    }
    return corners;
  }

  private static boolean keeps(List<BigInteger[]> halves, BigInteger[] v) {
    for (BigInteger[] h : halves) {
      if (dot(h, v).signum() < 0) {
        return false;
      }
    }
    return true;
  }

  /** Points and directions that make the set which the half-planes leave: more than needed. */
  private static List<BigInteger[]> makersOf(List<BigInteger[]> halves) {
    List<BigInteger[]> made = new ArrayList<>();
    List<BigInteger[]> with = new ArrayList<>(halves);
    List<BigInteger[]> normals = new ArrayList<>();
    for (BigInteger[] h : halves) {
      if (h[1].signum() != 0 || h[2].signum() != 0) {
        normals.add(h);
      } else if (h[0].signum() < 0) {
        return made;
      }
    }
    BigInteger[] lineDirection = null;
    boolean plane = normals.isEmpty();
    if (!plane) {
      BigInteger[] first = normals.get(0);
      boolean parallel = true;
      for (BigInteger[] h : normals) {
        parallel &= first[1].multiply(h[2]).equals(first[2].multiply(h[1]));
      }
      if (parallel) {
        lineDirection = new BigInteger[] {BigInteger.ZERO, first[2].negate(), first[1]};
      }
    }
    if (plane) {
      made.add(triple(1, 0, 0));
      made.add(triple(0, 1, 0));
      made.add(triple(0, -1, 0));
      made.add(triple(0, 0, 1));
      made.add(triple(0, 0, -1));
      return made;
    }
    // Of a set with one line, one point of each line is enough: the one on a line across.
    if (lineDirection != null) {
      BigInteger[] across = {BigInteger.ZERO, lineDirection[1], lineDirection[2]};
      with.add(across);
      with.add(neg(across));
    }
    for (int i = 0; i < with.size(); i++) {
      for (int k = 0; k < i; k++) {
        BigInteger[] v = cross(with.get(i), with.get(k));
        if (v[0].signum() < 0) {
          v = neg(v);
        }
        if (v[0].signum() > 0 && keeps(with, v)) {
          addNew(made, v);
        }
      }
    }
    if (made.isEmpty()) {
      return made;
    }
    List<BigInteger[]> directions = new ArrayList<>();
    for (BigInteger[] h : with) {
      directions.add(new BigInteger[] {BigInteger.ZERO, h[2].negate(), h[1]});
      directions.add(new BigInteger[] {BigInteger.ZERO, h[2], h[1].negate()});
      directions.add(new BigInteger[] {BigInteger.ZERO, h[1], h[2]});
      directions.add(new BigInteger[] {BigInteger.ZERO, h[1].negate(), h[2].negate()});
    }
    for (BigInteger[] d : directions) {
      if (!zero(d) && keeps(halves, d)) {
        addNew(made, d);
      }
    }
    return made;
  }

  /** Half-planes that leave just the set which the makers make: more than needed. */
  private static List<BigInteger[]> halvesOf(List<BigInteger[]> makers) {
    List<BigInteger[]> found = new ArrayList<>();
    List<BigInteger[]> tries = new ArrayList<>();
    for (BigInteger[] p : makers) {
      if (p[0].signum() > 0) {
        tries.add(through(p, BigInteger.ONE, BigInteger.ZERO));
        tries.add(through(p, BigInteger.ZERO, BigInteger.ONE));
      }
      for (BigInteger[] q : makers) {
        tries.add(cross(p, q));
        if (p[0].signum() > 0) {
          // A set within a line ends at p square to the way from p to q.
          BigInteger[] along = {
            BigInteger.ZERO,
            q[1].multiply(p[0]).subtract(p[1].multiply(q[0])),
            q[2].multiply(p[0]).subtract(p[2].multiply(q[0]))
          };
          tries.add(through(p, along[1], along[2]));
        }
      }
    }
    for (BigInteger[] t : tries) {
      if (t[1].signum() == 0 && t[2].signum() == 0) {
        continue;
      }
      if (keeps(makers, t)) {
        addNew(found, t);
      }
      if (keeps(makers, neg(t))) {
        addNew(found, neg(t));
      }
    }
    return found;
  }

  private static BigInteger[] through(BigInteger[] p, BigInteger a, BigInteger b) {
    return new BigInteger[] {
      a.multiply(p[1]).add(b.multiply(p[2])).negate(), a.multiply(p[0]), b.multiply(p[0])
    };
  }

  private static Model fromMakers(List<BigInteger[]> makers) {
    for (BigInteger[] m : makers) {
      if (m[0].signum() > 0) {
        return fromHalves(halvesOf(makers));
      }
    }
    return new Model();
  }

  private static Model fromHalves(List<BigInteger[]> halves) {
    Model m = new Model();
    List<BigInteger[]> makers = makersOf(halves);
    boolean point = false;
    for (BigInteger[] v : makers) {
      point |= v[0].signum() > 0;
    }
    if (!point) {
      return m;
    }
    canon(makers, m.kinds.get(2), m.kinds.get(3), m.kinds.get(4));
    canon(halvesOf(makers), m.kinds.get(0), m.kinds.get(1), m.kinds.get(1));
    dropSpare(m);
    sort(m);
    return m;
  }

  /** Rows whose opposite is there too become lines; the others lose what the lines' pivots tell. */
  private static void canon(
      List<BigInteger[]> rows,
      List<BigInteger[]> lines,
      List<BigInteger[]> flat,
      List<BigInteger[]> upright) {
    List<BigInteger[]> basis = new ArrayList<>();
    for (BigInteger[] r : rows) {
      for (BigInteger[] o : rows) {
        if (zero(new BigInteger[] {r[0].add(o[0]), r[1].add(o[1]), r[2].add(o[2])})) {
          basis.add(r);
          break;
        }
      }
    }
    for (int column = 1; column <= 2; column++) {
      BigInteger[] pivot = null;
      for (BigInteger[] b : basis) {
        if (b[column].signum() != 0 && pivot == null) {
          pivot = b[column].signum() > 0 ? b : neg(b);
        }
      }
      if (pivot == null) {
        continue;
      }
      for (int i = 0; i < basis.size(); i++) {
        basis.set(i, withoutColumn(basis.get(i), pivot, column));
      }
      for (int i = 0; i < lines.size(); i++) {
        lines.set(i, withoutColumn(lines.get(i), pivot, column));
      }
      lines.add(lowest(pivot));
    }
    for (BigInteger[] r : rows) {
      BigInteger[] left = r;
      for (BigInteger[] l : lines) {
        left = withoutColumn(left, l, l[1].signum() != 0 ? 1 : 2);
      }
      if (!zero(left)) {
        addNew(left[0].signum() == 0 ? flat : upright, left);
      }
    }
  }

  /** A row is spared if the others together still have the same set. */
  private static void dropSpare(Model m) {
    List<BigInteger[]> needed = m.kinds.get(1);
    needed.removeIf(h -> h[1].signum() == 0 && h[2].signum() == 0);
    for (int i = needed.size() - 1; i >= 0; i--) {
      BigInteger[] h = needed.remove(i);
      if (!keeps(makersOf(m.halves()), h)) {
        needed.add(i, h);
      }
    }
    for (int kind = 3; kind <= 4; kind++) {
      List<BigInteger[]> list = m.kinds.get(kind);
      for (int i = list.size() - 1; i >= 0; i--) {
        BigInteger[] v = list.remove(i);
        if (kind == 4 && list.isEmpty() || !keeps(halvesOf(m.makers()), v)) {
          list.add(i, v);
        }
      }
    }
  }

  private static void sort(Model m) {
    m.kinds.get(1).sort(
        Comparator.comparing((BigInteger[] r) -> r[1])
            .thenComparing(r -> r[2])
            .thenComparing(r -> r[0]));
    m.kinds.get(3).sort(
        Comparator.comparing((BigInteger[] r) -> r[1]).thenComparing(r -> r[2]));
    m.kinds.get(4).sort(
        (r, o) -> {
          int x = r[1].multiply(o[0]).compareTo(o[1].multiply(r[0]));
          return x != 0 ? x : r[2].multiply(o[0]).compareTo(o[2].multiply(r[0]));
        });
  }

  // ---------------------------------------------------------------- a run of calls

  private static final class Run {
    final int seed;
    final Random random;
    final ConvexDesk desk = new ConvexDesk();
    final Model[] slots = new Model[4];
    final List<Integer> numbers = new ArrayList<>();
    final StringBuilder told = new StringBuilder();
    BigInteger[] greatest = null;
    final int spread;
    int calls = 0;
    boolean quick = false;

    Run(int seed) {
      this.seed = seed;
      random = new Random(seed);
      for (int i = 0; i < 4; i++) {
        slots[i] = new Model();
      }
      spread = new int[] {1, 2, 3, 5, 30}[seed % 5];
    }

    ConvexDesk desk() {
      calls++;
      return desk;
    }

    boolean hasRoom() {
      return calls + CALLS_OF_A_STEP <= MOST_CALLS;
    }

    void go() {
      int before = wrong;
      while (hasRoom() && wrong == before) {
        step();
      }
      end(before);
    }

    /** Slots 0 and 1 become polygons of many sides, out of which the others are made. */
    void goRound() {
      int before = wrong;
      int[][] corners = corners();
      set(1, true);
      // One of the two comes first: both together would leave no calls for what is made of them.
      boolean byCorners = random.nextBoolean();
      quick = true;
      for (int turn = 0; turn < corners.length; turn++) {
        if (random.nextInt(8) == 0) {
          continue;
        }
        if (byCorners) {
          generate(0, false, 1, corners[turn][0], corners[turn][1]);
        } else {
          constrainBeside(corners[turn], turn);
        }
      }
      quick = false;
      while (hasRoom() && wrong == before) {
        stepRound(corners);
      }
      end(before);
    }

    void constrainBeside(int[] corner, int turn) {
      int a = -SIDES[turn][1];
      int b = SIDES[turn][0];
      constrain(1, false, random.nextInt(2) - a * corner[0] - b * corner[1], a, b);
    }

    void stepRound(int[][] corners) {
      int turn = random.nextInt(SIDES.length);
      switch (random.nextInt(5)) {
        case 0:
          generate(0, false, 1, corners[turn][0], corners[turn][1]);
          break;
        case 1:
          constrainBeside(corners[turn], turn);
          break;
        case 2:
        case 3:
          combine(random.nextInt(3), random.nextInt(4), random.nextInt(4), 2 + random.nextInt(2));
          break;
        default:
          set(2, false);
          generate(2, false, 1, 0, 0);
          generate(2, false, 1, SIDES[turn][0], SIDES[turn][1]);
          combine(2, 2, 3, random.nextInt(3) == 0 ? 0 : 3);
      }
    }

    void end(int before) {
      for (int slot = 0; slot < 4 && hasRoom(); slot++) {
        compareRows(slot);
      }
      if (wrong != before) {
        System.out.println("seed " + seed + ":" + told);
      }
    }

    void set(int slot, boolean plane) {
      told.append(" set(" + slot + "," + plane + ")");
      desk().set(slot, plane);
      slots[slot] = plane ? fromHalves(new ArrayList<>()) : new Model();
      compare(slot);
    }

    void step() {
      int slot = random.nextInt(4);
      switch (random.nextInt(12)) {
        case 0:
          set(slot, random.nextInt(3) > 0);
          break;
        case 1:
        case 2:
        case 3:
          constrain(slot);
          break;
        case 4:
        case 5:
        case 6:
          generate(slot);
          break;
        case 7:
        case 8:
        case 9:
          combine();
          break;
        case 10:
          map();
          break;
        default:
          ask(slot);
      }
    }

    int near() {
      return random.nextInt(2 * spread + 1) - spread;
    }

    /** What took the numbers before this has left none, or the first answer is not 1. */
    void say(int... all) {
      numbers.clear();
      for (int n : all) {
        told.append(" " + n);
        numbers.add(n);
        check("say", desk().say(n), numbers.size());
      }
    }

    void constrain(int slot) {
      boolean equality = random.nextInt(5) == 0;
      int c = random.nextBoolean() ? near() : random.nextInt(16);
      constrain(slot, equality, c, near(), near());
    }

    void constrain(int slot, boolean equality, int c, int a, int b) {
      say(c, a, b);
      List<BigInteger[]> halves = slots[slot].halves();
      BigInteger[] row = triple(numbers.get(0), numbers.get(1), numbers.get(2));
      halves.add(row);
      if (equality) {
        halves.add(neg(row));
      }
      Model due = slots[slot].empty() ? new Model() : fromHalves(halves);
      told.append(" constrain(" + slot + "," + equality + ")");
      int got;
      try {
        got = desk().constrain(slot, equality);
      } catch (ArithmeticException e) {
        got = -100 - LARGE;
      } catch (IllegalStateException e) {
        got = -100 - RICH;
      }
      settle("constrain", slot, due, got, true);
    }

    void generate(int slot) {
      int g = random.nextInt(3) == 0 ? 0 : random.nextInt(spread > 5 ? 3 : spread) + 1;
      boolean both = g == 0 && random.nextInt(3) == 0;
      int far = g > 0 && random.nextInt(3) == 0 ? 4 : 1;
      int x = Math.max(-30, Math.min(30, far * near()));
      int y = Math.max(-30, Math.min(30, far * near()));
      if (g == 0 && x == 0 && y == 0 || g == 0 && slots[slot].empty()) {
        g = 1;
        both = false;
      }
      generate(slot, both, g, x, y);
    }

    void generate(int slot, boolean both, int g, int x, int y) {
      say(g, x, y);
      List<BigInteger[]> makers = slots[slot].makers();
      makers.add(triple(g, x, y));
      if (both) {
        makers.add(triple(g, -x, -y));
      }
      told.append(" generate(" + slot + "," + both + ")");
      int got;
      try {
        got = desk().generate(slot, both);
      } catch (ArithmeticException e) {
        got = -100 - LARGE;
      } catch (IllegalStateException e) {
        got = -100 - RICH;
      }
      settle("generate", slot, fromMakers(makers), got, true);
    }

    void combine() {
      combine(random.nextInt(3), random.nextInt(4), random.nextInt(4), random.nextInt(4));
    }

    void combine(int kind, int one, int other, int to) {
      told.append(" combine(" + kind + "," + one + "," + other + "," + to + ")");
      Model due = combined(kind, slots[one], slots[other]);
      int got;
      try {
        got = desk().combine(kind, one, other, to);
      } catch (ArithmeticException e) {
        got = -100 - LARGE;
      } catch (IllegalStateException e) {
        got = -100 - RICH;
      }
      settle("combine", to, due, got, false);
    }

    Model combined(int kind, Model one, Model other) {
      if (kind == 1) {
        List<BigInteger[]> makers = one.makers();
        makers.addAll(other.makers());
        return fromMakers(makers);
      }
      if (one.empty() || other.empty()) {
        return new Model();
      }
      if (kind == 0) {
        List<BigInteger[]> halves = one.halves();
        halves.addAll(other.halves());
        return fromHalves(halves);
      }
      List<BigInteger[]> makers = new ArrayList<>();
      for (BigInteger[] p : one.makers()) {
        if (p[0].signum() == 0) {
          makers.add(p);
        }
        for (BigInteger[] q : other.makers()) {
          if (p[0].signum() > 0 && q[0].signum() > 0) {
            addNew(
                makers,
                new BigInteger[] {
                  p[0].multiply(q[0]),
                  p[1].multiply(q[0]).add(q[1].multiply(p[0])),
                  p[2].multiply(q[0]).add(q[2].multiply(p[0]))
                });
          }
        }
      }
      for (BigInteger[] q : other.makers()) {
        if (q[0].signum() == 0) {
          makers.add(q);
        }
      }
      return fromMakers(makers);
    }

    void map() {
      int from = random.nextInt(4);
      int to = random.nextInt(4);
      boolean back = random.nextBoolean();
      say(near(), near(), near(), near(), near(), near());
      told.append(" map(" + from + "," + back + "," + to + ")");
      BigInteger[] n = new BigInteger[6];
      for (int i = 0; i < 6; i++) {
        n[i] = BigInteger.valueOf(numbers.get(i));
      }
      List<BigInteger[]> moved = new ArrayList<>();
      for (BigInteger[] r : back ? slots[from].halves() : slots[from].makers()) {
        BigInteger[] m;
        if (back) {
          m = new BigInteger[] {
            r[0].add(r[1].multiply(n[4])).add(r[2].multiply(n[5])),
            r[1].multiply(n[0]).add(r[2].multiply(n[2])),
            r[1].multiply(n[1]).add(r[2].multiply(n[3]))
          };
        } else {
          m = new BigInteger[] {
            r[0],
            r[1].multiply(n[0]).add(r[2].multiply(n[1])).add(r[0].multiply(n[4])),
            r[1].multiply(n[2]).add(r[2].multiply(n[3])).add(r[0].multiply(n[5]))
          };
        }
        if (!zero(m)) {
          moved.add(m);
        }
      }
      Model due = new Model();
      if (!slots[from].empty()) {
        due = back ? fromHalves(moved) : fromMakers(moved);
      }
      int got;
      try {
        got = desk().map(from, back, to);
      } catch (ArithmeticException e) {
        got = -100 - LARGE;
      } catch (IllegalStateException e) {
        got = -100 - RICH;
      }
      settle("map", to, due, got, true);
    }

    void settle(String call, int slot, Model due, int got, boolean takes) {
      int code = due.large() ? LARGE : due.rich() ? RICH : 0;
      outcomes[code]++;
      check(call, got, code > 0 ? -100 - code : due.dimension());
      if (code == 0) {
        slots[slot] = due;
      }
      compare(slot);
      if (takes && code != 0) {
        int left = numbers.size();
        if (left < 6) {
          check("numbers left after " + call, desk().say(0) - 1, left);
        }
        desk().hush();
      }
      numbers.clear();
    }

    void ask(int slot) {
      int other = random.nextInt(4);
      boolean within =
          slots[other].empty()
              || !slots[slot].empty() && keepsAll(slots[slot].halves(), slots[other].makers());
      told.append(" includes(" + slot + "," + other + ")");
      check("includes", desk().includes(slot, other) ? 1 : 0, within ? 1 : 0);
      say(1 + random.nextInt(3), near(), near());
      told.append(" has(" + slot + ")");
      boolean in =
          !slots[slot].empty()
              && keeps(
                  slots[slot].halves(),
                  triple(numbers.get(0), numbers.get(1), numbers.get(2)));
      check("has", desk().has(slot) ? 1 : 0, in ? 1 : 0);
      say(near(), near());
      told.append(" maximum(" + slot + ")");
      int due = maximum(slot);
      check("maximum", desk().maximum(slot), due);
      if (due == 2) {
        check("greatest(0)", desk().greatest(0), greatest[0].intValue());
        check("greatest(1)", desk().greatest(1), greatest[1].intValue());
      } else {
        int thrown = 0;
        try {
          desk().greatest(0);
        } catch (IllegalStateException e) {
          thrown = 1;
        }
        check("greatest throws", thrown, 1);
      }
      numbers.clear();
    }

    boolean keepsAll(List<BigInteger[]> halves, List<BigInteger[]> makers) {
      for (BigInteger[] v : makers) {
        if (!keeps(halves, v)) {
          return false;
        }
      }
      return true;
    }

    int maximum(int slot) {
      if (slots[slot].empty()) {
        return 0;
      }
      BigInteger[] rise = triple(0, numbers.get(0), numbers.get(1));
      BigInteger[] best = null;
      for (BigInteger[] v : slots[slot].makers()) {
        BigInteger value = dot(rise, v);
        if (v[0].signum() == 0) {
          if (value.signum() > 0) {
            return 1;
          }
        } else if (best == null
            || value.multiply(best[1]).compareTo(best[0].multiply(v[0])) > 0) {
          best = new BigInteger[] {value, v[0]};
        }
      }
      BigInteger d = best[0].gcd(best[1]);
      greatest = new BigInteger[] {best[0].divide(d), best[1].divide(d)};
      return 2;
    }

    void compare(int slot) {
      check("dimension", desk().dimension(slot), slots[slot].dimension());
      for (int kind = 0; kind < 5; kind++) {
        int due = slots[slot].kinds.get(kind).size();
        check("rows(" + slot + "," + kind + ")", desk().rows(slot, kind), due);
      }
      if (!quick && hasRoom() && random.nextInt(4) == 0) {
        compareRows(slot);
      }
    }

    void compareRows(int slot) {
      for (int kind = 0; kind < 5; kind++) {
        List<BigInteger[]> due = slots[slot].kinds.get(kind);
        for (int i = 0; i < due.size() && wrong == 0; i++) {
          for (int j = 0; j < 3; j++) {
            check(
                "row(" + slot + "," + kind + "," + i + "," + j + ")",
                desk().row(slot, kind, i, j),
                due.get(i)[j].longValueExact());
          }
        }
      }
    }

    void check(String call, long got, long due) {
      if (calls > MOST_CALLS) {
        throw new IllegalStateException("more calls than the document allows");
      }
      if (got != due) {
        wrong++;
        System.out.println("seed " + seed + ": " + call + " answered " + got + ", due is " + due);
      }
    }
  }
}
