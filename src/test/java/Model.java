import java.math.BigDecimal;
import java.math.BigInteger;
import java.math.MathContext;
import java.util.ArrayList;
import java.util.Arrays;
import java.util.List;

/**
 * The document once more, written as slowly and plainly as its words allow, and
 * by other means than the program: the mesh is a greedy set of edges that is
 * flipped, the sleeve is the least of all rows, the way is a search over all
 * stretches between the ends of the gates.
 */
final class Model {
    static final long BOUND = 536870911L;
    static final MathContext DIGITS = new MathContext(70);

    record Tri(int a, int b, int c) {
        int at(int k) {
            return k % 3 == 0 ? a : k % 3 == 1 ? b : c;
        }
    }

    private final List<long[]> points = new ArrayList<>();
    private final boolean[][] linked = new boolean[40][40];
    private List<Tri> mesh;
    private List<Integer> lastTurns = new ArrayList<>();
    private List<Integer> lastRow = new ArrayList<>();

    // ---- the plane

    static BigInteger big(long number) {
        return BigInteger.valueOf(number);
    }

    static long area(long[] a, long[] b, long[] c) {
        return (b[0] - a[0]) * (c[1] - a[1]) - (b[1] - a[1]) * (c[0] - a[0]);
    }

    private long area(int a, int b, int c) {
        return area(points.get(a), points.get(b), points.get(c));
    }

    static boolean within(long[] a, long[] b, long[] p) {
        return area(a, b, p) == 0
            && Math.min(a[0], b[0]) <= p[0] && p[0] <= Math.max(a[0], b[0])
            && Math.min(a[1], b[1]) <= p[1] && p[1] <= Math.max(a[1], b[1]);
    }

    /** The determinant with 1 in its last column, each point lifted by its own square. */
    private int inside(int a, int b, int c, int d) {
        int[] four = {a, b, c, d};
        BigInteger[][] rows = new BigInteger[4][];
        for (int i = 0; i < 4; i++) {
            BigInteger x = big(points.get(four[i])[0]);
            BigInteger y = big(points.get(four[i])[1]);
            rows[i] = new BigInteger[] {x, y, x.multiply(x).add(y.multiply(y)), BigInteger.ONE};
        }
        return determinant(rows).signum() * Long.signum(area(a, b, c));
    }

    static BigInteger determinant(BigInteger[][] m) {
        if (m.length == 1) {
            return m[0][0];
        }
        BigInteger sum = BigInteger.ZERO;
        for (int skip = 0; skip < m.length; skip++) {
            BigInteger[][] rest = new BigInteger[m.length - 1][m.length - 1];
            for (int i = 1; i < m.length; i++) {
                for (int j = 0, to = 0; j < m.length; j++) {
                    if (j != skip) {
                        rest[i - 1][to++] = m[i][j];
                    }
                }
            }
            BigInteger part = m[0][skip].multiply(determinant(rest));
            sum = skip % 2 == 0 ? sum.add(part) : sum.subtract(part);
        }
        return sum;
    }

    private boolean cross(int a, int b, int c, int d) {
        return Long.signum(area(a, b, c)) * Long.signum(area(a, b, d)) < 0
            && Long.signum(area(c, d, a)) * Long.signum(area(c, d, b)) < 0;
    }

    private boolean pointOn(int a, int b) {
        for (int p = 0; p < points.size(); p++) {
            if (p != a && p != b && within(points.get(a), points.get(b), points.get(p))) {
                return true;
            }
        }
        return false;
    }

    // ---- the mesh

    int size() {
        return points.size();
    }

    long[] point(int i) {
        return points.get(i);
    }

    List<Tri> triangles() {
        if (mesh == null) {
            mesh = flipped(greedy());
            checkMesh();
        }
        return mesh;
    }

    /** Links first, then any edge that crosses none so far. */
    private List<Tri> greedy() {
        int n = points.size();
        boolean[][] edge = new boolean[n][n];
        List<int[]> chosen = new ArrayList<>();
        for (int round = 0; round < 2; round++) {
            for (int a = 0; a < n; a++) {
                for (int b = a + 1; b < n; b++) {
                    boolean wanted = round == 0 ? linked[a][b] : !edge[a][b] && !pointOn(a, b);
                    for (int i = 0; i < chosen.size() && wanted; i++) {
                        wanted = !cross(a, b, chosen.get(i)[0], chosen.get(i)[1]);
                    }
                    if (wanted) {
                        chosen.add(new int[] {a, b});
                        edge[a][b] = true;
                        edge[b][a] = true;
                    }
                }
            }
        }
        List<Tri> found = new ArrayList<>();
        for (int a = 0; a < n; a++) {
            for (int b = a + 1; b < n; b++) {
                for (int c = b + 1; c < n; c++) {
                    if (edge[a][b] && edge[b][c] && edge[a][c] && area(a, b, c) != 0 && isFree(a, b, c)) {
                        found.add(area(a, b, c) > 0 ? new Tri(a, b, c) : new Tri(a, c, b));
                    }
                }
            }
        }
        return found;
    }

    private boolean isFree(int a, int b, int c) {
        Tri t = area(a, b, c) > 0 ? new Tri(a, b, c) : new Tri(a, c, b);
        for (int p = 0; p < points.size(); p++) {
            if (p != a && p != b && p != c && holds(t, points.get(p))) {
                return false;
            }
        }
        return true;
    }

    private boolean holds(Tri t, long[] p) {
        for (int k = 0; k < 3; k++) {
            if (area(points.get(t.at(k)), points.get(t.at(k + 1)), p) < 0) {
                return false;
            }
        }
        return true;
    }

    private static Tri leastFirst(int a, int b, int c) {
        if (a < b && a < c) {
            return new Tri(a, b, c);
        }
        return b < c ? new Tri(b, c, a) : new Tri(c, a, b);
    }

    private boolean good(int a, int b, int c, int d) {
        int inside = inside(a, b, c, d);
        return linked[a][b] || inside < 0 || inside == 0 && Math.min(a, b) < Math.min(c, d);
    }

    private List<Tri> flipped(List<Tri> start) {
        List<Tri> now = new ArrayList<>(start);
        boolean again = true;
        while (again) {
            again = false;
            for (int i = 0; i < now.size() && !again; i++) {
                for (int k = 0; k < 3 && !again; k++) {
                    again = flipIfBad(now, i, k);
                }
            }
        }
        now.sort((s, t) -> s.a() != t.a() ? s.a() - t.a() : s.b() != t.b() ? s.b() - t.b() : s.c() - t.c());
        return now;
    }

    private boolean flipIfBad(List<Tri> now, int i, int k) {
        int a = now.get(i).at(k);
        int b = now.get(i).at(k + 1);
        int c = now.get(i).at(k + 2);
        for (int j = 0; j < now.size(); j++) {
            for (int m = 0; m < 3; m++) {
                if (now.get(j).at(m) == b && now.get(j).at(m + 1) == a) {
                    int d = now.get(j).at(m + 2);
                    if (good(a, b, c, d)) {
                        return false;
                    }
                    now.set(i, leastFirst(a, d, c));
                    now.set(j, leastFirst(d, b, c));
                    return true;
                }
            }
        }
        return false;
    }

    /** The words of the document about the mesh, checked on the model itself. */
    private void checkMesh() {
        BigInteger sum = BigInteger.ZERO;
        boolean[] used = new boolean[points.size()];
        for (Tri t : mesh) {
            sum = sum.add(big(area(t.a(), t.b(), t.c())));
            must(area(t.a(), t.b(), t.c()) > 0, "left round");
            for (int k = 0; k < 3; k++) {
                used[t.at(k)] = true;
            }
        }
        must(sum.equals(hullArea()), "the whole hull");
        for (int a = 0; a < points.size() && !mesh.isEmpty(); a++) {
            must(used[a], "each point is a corner");
            for (int b = 0; b < a; b++) {
                must(!linked[a][b] || edge(a, b) == 2, "each link is an edge");
            }
        }
        for (int i = 0; i < mesh.size(); i++) {
            for (int k = 0; k < 3; k++) {
                int j = across(i, k);
                if (j >= 0) {
                    must(good(mesh.get(i).at(k), mesh.get(i).at(k + 1), mesh.get(i).at(k + 2), third(j, i)), "good");
                }
            }
        }
    }

    private int third(int of, int beside) {
        for (int k = 0; k < 3; k++) {
            int p = mesh.get(of).at(k);
            if (p != mesh.get(beside).a() && p != mesh.get(beside).b() && p != mesh.get(beside).c()) {
                return p;
            }
        }
        throw new AssertionError("the same triangle twice");
    }

    /** Twice the area of the hull: each pair with no point to its right, none between. */
    private BigInteger hullArea() {
        BigInteger sum = BigInteger.ZERO;
        for (int a = 0; a < points.size(); a++) {
            for (int b = 0; b < points.size(); b++) {
                boolean hull = a != b && !pointOn(a, b);
                for (int p = 0; p < points.size() && hull; p++) {
                    hull = area(a, b, p) >= 0;
                }
                if (hull) {
                    sum = sum.add(big(points.get(a)[0]).multiply(big(points.get(b)[1])))
                        .subtract(big(points.get(a)[1]).multiply(big(points.get(b)[0])));
                }
            }
        }
        return sum;
    }

    static void must(boolean holds, String what) {
        if (!holds) {
            throw new AssertionError("the model is wrong: " + what);
        }
    }

    // ---- the face

    int add(long x, long y) {
        needPlace(x, y);
        if (points.size() == 40) {
            throw new IllegalStateException();
        }
        long[] p = {x, y};
        for (int a = 0; a < points.size(); a++) {
            if (Arrays.equals(p, points.get(a))) {
                return -1;
            }
            for (int b = 0; b < a; b++) {
                if (linked[a][b] && within(points.get(a), points.get(b), p)) {
                    return -1;
                }
            }
        }
        points.add(p);
        mesh = null;
        return points.size() - 1;
    }

    boolean link(int a, int b) {
        needPair(a, b);
        if (pointOn(a, b)) {
            return false;
        }
        for (int c = 0; c < points.size(); c++) {
            for (int d = 0; d < c; d++) {
                if (linked[c][d] && cross(a, b, c, d)) {
                    return false;
                }
            }
        }
        linked[a][b] = true;
        linked[b][a] = true;
        mesh = null;
        return true;
    }

    boolean unlink(int a, int b) {
        needPair(a, b);
        boolean was = linked[a][b];
        linked[a][b] = false;
        linked[b][a] = false;
        mesh = null;
        return was;
    }

    int clear() {
        int were = points.size();
        points.clear();
        for (boolean[] row : linked) {
            Arrays.fill(row, false);
        }
        mesh = null;
        return were;
    }

    int count(int what) {
        int found = 0;
        for (int a = 0; a < points.size(); a++) {
            for (int b = 0; b < a; b++) {
                int sides = sides(a, b);
                if (what == 1 && linked[a][b] || what == 3 && sides > 0 || what == 4 && sides == 1) {
                    found++;
                }
            }
        }
        return what == 0 ? points.size() : what == 2 ? triangles().size()
            : what == 1 || what == 3 || what == 4 ? found : -1;
    }

    private int sides(int a, int b) {
        int sides = 0;
        for (Tri t : triangles()) {
            for (int k = 0; k < 3; k++) {
                if (t.at(k) == a && t.at(k + 1) == b || t.at(k) == b && t.at(k + 1) == a) {
                    sides++;
                }
            }
        }
        return sides;
    }

    int corner(int i, int k) {
        needCorner(i, k);
        return triangles().get(i).at(k);
    }

    int across(int i, int k) {
        needCorner(i, k);
        for (int j = 0; j < triangles().size(); j++) {
            for (int m = 0; m < 3; m++) {
                if (mesh.get(j).at(m) == mesh.get(i).at(k + 1) && mesh.get(j).at(m + 1) == mesh.get(i).at(k)) {
                    return j;
                }
            }
        }
        return -1;
    }

    int edge(int a, int b) {
        needPair(a, b);
        return sides(a, b) == 0 ? 0 : linked[a][b] ? 2 : 1;
    }

    int side(int a, int b, int c) {
        need(isPoint(a) && isPoint(b) && isPoint(c));
        return Long.signum(area(a, b, c));
    }

    int circle(int a, int b, int c, int d) {
        need(isPoint(a) && isPoint(b) && isPoint(c) && isPoint(d) && area(a, b, c) != 0);
        return inside(a, b, c, d);
    }

    int locate(long x, long y) {
        needPlace(x, y);
        for (int i = 0; i < triangles().size(); i++) {
            if (holds(mesh.get(i), new long[] {x, y})) {
                return i;
            }
        }
        return -1;
    }

    int way(long ax, long ay, long bx, long by) {
        needPlace(ax, ay);
        needPlace(bx, by);
        int first = locate(ax, ay);
        int last = locate(bx, by);
        List<Integer> row = first < 0 || last < 0 ? null : leastRow(first, last);
        if (row == null) {
            return -1;
        }
        lastRow = row;
        lastTurns = turnsOf(row, new long[] {ax, ay}, new long[] {bx, by});
        return lastTurns.size();
    }

    int turn(int i) {
        return i < 0 || i >= lastTurns.size() ? -1 : lastTurns.get(i);
    }

    int sleeve(int i) {
        return i < 0 || i >= lastRow.size() ? -1 : lastRow.get(i);
    }

    private boolean isPoint(int i) {
        return i >= 0 && i < points.size();
    }

    private static void need(boolean holds) {
        if (!holds) {
            throw new IllegalArgumentException();
        }
    }

    private static void needPlace(long x, long y) {
        need(Math.abs(x) <= BOUND && Math.abs(y) <= BOUND);
    }

    private void needPair(int a, int b) {
        need(isPoint(a) && isPoint(b) && a != b);
    }

    private void needCorner(int i, int k) {
        if (i < 0 || i >= triangles().size() || k < 0 || k > 2) {
            throw new IndexOutOfBoundsException();
        }
    }

    // ---- the sleeve and the way

    /** Level by level, with the least row to every triangle of the level. */
    private List<Integer> leastRow(int first, int last) {
        List<List<Integer>> rows = new ArrayList<>();
        boolean[] done = new boolean[mesh.size()];
        rows.add(List.of(first));
        done[first] = true;
        while (!rows.isEmpty()) {
            List<List<Integer>> longer = new ArrayList<>();
            for (List<Integer> row : rows) {
                int end = row.get(row.size() - 1);
                if (end == last) {
                    return row;
                }
                for (int k = 0; k < 3; k++) {
                    int next = across(end, k);
                    if (next >= 0 && !done[next] && !linked[mesh.get(end).at(k)][mesh.get(end).at(k + 1)]) {
                        List<Integer> more = new ArrayList<>(row);
                        more.add(next);
                        keepLeast(longer, more);
                    }
                }
            }
            for (List<Integer> row : longer) {
                done[row.get(row.size() - 1)] = true;
            }
            rows = longer;
        }
        return null;
    }

    private static void keepLeast(List<List<Integer>> rows, List<Integer> row) {
        int end = row.size() - 1;
        for (int i = 0; i < rows.size(); i++) {
            if (rows.get(i).get(end).equals(row.get(end))) {
                for (int j = 0; j <= end; j++) {
                    int order = Integer.compare(row.get(j), rows.get(i).get(j));
                    if (order < 0) {
                        rows.set(i, row);
                    }
                    if (order != 0) {
                        return;
                    }
                }
                return;
            }
        }
        rows.add(row);
    }

    /** Nodes: the start, both ends of every gate, the goal; each a point's number or -1. */
    private List<Integer> turnsOf(List<Integer> row, long[] start, long[] goal) {
        List<long[][]> gates = new ArrayList<>();
        List<Integer> stage = new ArrayList<>(List.of(-1));
        List<Integer> name = new ArrayList<>(List.of(-1));
        List<long[]> where = new ArrayList<>();
        where.add(start);
        for (int i = 0; i + 1 < row.size(); i++) {
            for (int k = 0; k < 3; k++) {
                if (across(row.get(i), k) == row.get(i + 1)) {
                    int a = mesh.get(row.get(i)).at(k);
                    int b = mesh.get(row.get(i)).at(k + 1);
                    gates.add(new long[][] {points.get(a), points.get(b)});
                    stage.addAll(List.of(i, i));
                    name.addAll(List.of(a, b));
                    where.add(points.get(a));
                    where.add(points.get(b));
                }
            }
        }
        stage.add(gates.size());
        name.add(-1);
        where.add(goal);
        int[] from = shortest(gates, stage, where);
        List<Integer> nodes = new ArrayList<>();
        for (int i = where.size() - 1; i >= 0; i = from[i]) {
            nodes.add(0, i);
        }
        return bends(nodes, name, where);
    }

    private static int[] shortest(List<long[][]> gates, List<Integer> stage, List<long[]> where) {
        BigDecimal[] best = new BigDecimal[where.size()];
        int[] from = new int[where.size()];
        best[0] = BigDecimal.ZERO;
        from[0] = -1;
        for (int j = 1; j < where.size(); j++) {
            for (int i = 0; i < j; i++) {
                if (stage.get(i) < stage.get(j) && passes(gates, stage.get(i), stage.get(j), where.get(i), where.get(j))) {
                    BigDecimal length = best[i].add(distance(where.get(i), where.get(j)));
                    if (best[j] == null || length.compareTo(best[j]) < 0) {
                        best[j] = length;
                        from[j] = i;
                    }
                }
            }
        }
        return from;
    }

    private static BigDecimal distance(long[] a, long[] b) {
        long x = a[0] - b[0];
        long y = a[1] - b[1];
        return new BigDecimal(x * x + y * y).sqrt(DIGITS);
    }

    /** Whether the stretch from u to w goes through all gates between two stages in order. */
    private static boolean passes(List<long[][]> gates, int i, int j, long[] u, long[] w) {
        long[] now = {0, 1};
        for (int k = i + 1; k < j; k++) {
            long[][] when = meeting(gates.get(k)[0], gates.get(k)[1], u, w);
            if (when == null) {
                return false;
            }
            if (compare(when[0], now) > 0) {
                now = when[0];
            }
            if (compare(now, when[1]) > 0) {
                return false;
            }
        }
        return true;
    }

    private static int compare(long[] s, long[] t) {
        return big(s[0]).multiply(big(t[1])).compareTo(big(t[0]).multiply(big(s[1])));
    }

    /** From when to when (as parts of the stretch from u to w) it is on the gate a, b. */
    private static long[][] meeting(long[] a, long[] b, long[] u, long[] w) {
        long[] zero = {0, 1};
        long[] one = {1, 1};
        if (Arrays.equals(u, w)) {
            return within(a, b, u) ? new long[][] {zero, one} : null;
        }
        long atU = area(a, b, u);
        long atW = area(a, b, w);
        if (atU == 0 && atW == 0) {
            long[] s = along(u, w, a);
            long[] t = along(u, w, b);
            long[] low = compare(s, t) < 0 ? s : t;
            long[] high = compare(s, t) < 0 ? t : s;
            low = compare(low, zero) < 0 ? zero : low;
            high = compare(high, one) > 0 ? one : high;
            return compare(low, high) > 0 ? null : new long[][] {low, high};
        }
        if (Long.signum(atU) * Long.signum(atW) > 0
            || Long.signum(area(u, w, a)) * Long.signum(area(u, w, b)) > 0) {
            return null;
        }
        long[] t = atU > atW ? new long[] {atU, atU - atW} : new long[] {-atU, atW - atU};
        return new long[][] {t, t};
    }

    private static long[] along(long[] u, long[] w, long[] p) {
        long x = w[0] - u[0];
        long y = w[1] - u[1];
        return new long[] {(p[0] - u[0]) * x + (p[1] - u[1]) * y, x * x + y * y};
    }

    private static List<Integer> bends(List<Integer> nodes, List<Integer> name, List<long[]> where) {
        List<Integer> apart = new ArrayList<>();
        for (int node : nodes) {
            if (apart.isEmpty() || !Arrays.equals(where.get(node), where.get(apart.get(apart.size() - 1)))) {
                apart.add(node);
            }
        }
        List<Integer> turns = new ArrayList<>();
        for (int i = 1; i + 1 < apart.size(); i++) {
            long[] p = where.get(apart.get(i - 1));
            long[] q = where.get(apart.get(i));
            long[] r = where.get(apart.get(i + 1));
            boolean straightOn = area(p, q, r) == 0
                && (q[0] - p[0]) * (r[0] - q[0]) + (q[1] - p[1]) * (r[1] - q[1]) > 0;
            if (!straightOn) {
                turns.add(name.get(apart.get(i)));
            }
        }
        return turns;
    }
}
