import java.util.ArrayList;
import java.util.Arrays;
import java.util.List;
import java.util.TreeSet;

/** When there is a mesh, which one it is for points on one circle, and in which triangle a place lies. */
public final class MeshEdgesTest {
    private static final int NONE = Look.NONE;
    private static final int FAR = Look.FAR;
    private static final Class<?> ILLEGAL = IllegalArgumentException.class;
    private static final Class<?> OUT = IndexOutOfBoundsException.class;
    private static final Expect expect = new Expect();

    public static void main(String[] args) {
        noMesh();
        firstPointBesideTheLine();
        firstPointBesideALongLine();
        meshGoesAndComes();
        nothingOfBeforeClear();
        eachPointIsACorner();
        numbersOfTriangles();
        fourOnOneCircle();
        fourAtTheBounds();
        manyOnOneCircle();
        manyOnOneCircleWithALink();
        linkComesAndGoesOnOneCircle();
        offTheCircleByAHair();
        oneCircleInside();
        pointOnEachEdge();
        linkBetweenAnyTwo();
        linkUnderALeaningCorner();
        placesOfEveryKind();
        placesOnLinks();
        placesJustOutside();
        expect.finish();
    }

    // ---- whether there is a mesh

    private static void noMesh() {
        expect.words("THE MESH is there if not all points are on one line");
        for (World world : new World[] {World.NEW, World.ONE_POINT, World.TWO_LINKED, World.ON_ONE_LINE,
            World.FULL_LINE}) {
            MeshWalk m = world.make();
            expect.due(world + ", triangles and edges", m.count(2) + " " + m.count(3) + " " + m.count(4), "0 0 0");
            expect.due(world + ", corner", Expect.answer(() -> m.corner(0, 0)), OUT);
            expect.due(world + ", across", Expect.answer(() -> m.across(0, 0)), OUT);
            expect.due(world + ", locate at a point", m.locate(0, 0), NONE);
            expect.due(world + ", locate on the line", m.locate(3, 3), NONE);
            expect.due(world + ", way", m.way(0, 0, 0, 0), NONE);
            expect.due(world + ", way between points", m.way(0, 0, 6, 6), NONE);
            expect.due(world + ", last way", Look.lastWay(m), " | ");
            expect.due(world + ", edge", Expect.answer(() -> m.edge(0, 1)), m.count(0) < 2 ? ILLEGAL : (Object) 0);
        }
        expect.words("also if there is no MESH, but a LINK");
        MeshWalk line = World.ON_ONE_LINE.make();
        for (int a = 0; a < 4; a++) {
            for (int b = 0; b < 4; b++) {
                if (a != b) {
                    expect.due("edge " + a + " " + b, line.edge(a, b), 0);
                }
            }
        }
        expect.due("both are links", line.link(0, 1) && line.link(3, 2), true);
    }

    private static void firstPointBesideTheLine() {
        expect.words("not all points are on one line: the first one beside it");
        int[][] beside = {{-50, 9}, {-8, -7}, {0, 1}, {3, 4}, {6, 7}, {20, 21}, {50, 51},
            {9, -50}, {-7, -8}, {1, 0}, {4, 3}, {7, 6}, {21, 20}, {51, 50}};
        for (int[] p : beside) {
            MeshWalk m = World.ON_ONE_LINE.make();
            expect.due("add", m.add(p[0], p[1]), 4);
            boolean above = p[1] > p[0];
            String at = p[0] + " " + p[1];
            expect.due("the mesh with " + at, Look.triangles(m), above ? "0 3 4, 0 4 1, 2 4 3" : "0 1 4, 0 4 3, 2 3 4");
            expect.due("its counts", Look.counts(m), "5 2 3 7 5");
            expect.due("the links", m.edge(0, 1) + m.edge(2, 3), 4);
            expect.due("between them", m.edge(0, 3), 1);
            expect.due("over points", m.edge(1, 2) + m.edge(1, 3) + m.edge(0, 2), 0);
        }
    }

    private static void firstPointBesideALongLine() {
        expect.words("not all points are on one line: 39 on it, and the 40th");
        for (int up = -1; up <= 1; up += 2) {
            MeshWalk m = new MeshWalk();
            for (int i = 0; i < 39; i++) {
                m.add(7 * i % 39, 5);
            }
            expect.due("no mesh", Look.counts(m), "39 0 0 0 0");
            expect.due("the 40th", m.add(20, 5 + up), 39);
            expect.due("a mesh", Look.counts(m), "40 0 38 77 40");
        }
        MeshWalk upright = Look.of(FAR, -FAR, FAR, FAR, FAR, 0);
        expect.due("at the bound of x", upright.locate(FAR, 0), NONE);
        expect.due("a point one step beside it", upright.add(FAR - 1, 1 - FAR), 3);
        expect.due("its mesh", Look.triangles(upright), "0 2 3, 1 3 2");
    }

    private static void meshGoesAndComes() {
        expect.words("clear, and points anew");
        MeshWalk m = World.WALKED.make();
        expect.due("five points", m.clear(), 5);
        expect.due("no mesh", Look.counts(m) + " " + m.locate(5, 5), "0 0 0 0 0 -1");
        m.add(5, 5);
        m.add(1, 1);
        m.add(9, 9);
        expect.due("on one line", Look.counts(m) + " " + m.locate(5, 5), "3 0 0 0 0 -1");
        expect.due("no edges of before", m.edge(0, 1) + m.edge(0, 2) + m.edge(1, 2), 0);
        m.add(9, 1);
        expect.due("a mesh", Look.triangles(m), "0 1 3, 0 3 2");
        expect.due("no links of before", m.count(1), 0);
        m.clear();
        m.add(0, 0);
        m.add(0, 9);
        m.add(9, 0);
        expect.due("another", Look.triangles(m) + ", " + m.across(0, 0) + m.across(0, 1) + m.across(0, 2),
            "0 2 1, -1-1-1");
    }

    private static void nothingOfBeforeClear() {
        expect.words("No points, no LINKS");
        for (World world : new World[] {World.TWO_LINKED, World.ON_ONE_LINE, World.WALKED}) {
            MeshWalk m = world.make();
            int points = m.clear();
            int[][] places = {{0, 0}, {10, 0}, {10, 10}, {0, 10}, {5, 5}};
            for (int[] p : places) {
                m.add(p[0], p[1]);
            }
            String what = "after " + world + " with " + points;
            expect.due(what, Look.counts(m) + ", " + Look.triangles(m), "5 0 4 8 4, 0 1 4, 0 4 3, 1 2 4, 2 3 4");
            for (int a = 0; a < 5; a++) {
                for (int b = a + 1; b < 5; b++) {
                    expect.due(what + ", edge " + a + " " + b, m.edge(a, b), a == 0 && b == 2 || a == 1 && b == 3 ? 0 : 1);
                    expect.due(what + ", unlink " + a + " " + b, m.unlink(a, b), false);
                }
            }
            expect.due(what + ", nothing shut", m.way(5, 1, 1, 5), 0);
            expect.due(what + ", its row", Look.row(m), "0 1");
            expect.due(what + ", nothing to lie on", m.add(2, 2), 5);
        }
    }

    private static void eachPointIsACorner() {
        expect.words("with no point on an edge but its ends (so each point is a corner)");
        MeshWalk m = Look.of(0, 0, 12, 0, 0, 12);
        expect.due("on the hull", m.add(6, 0), 3);
        expect.due("two triangles", Look.triangles(m), "0 3 2, 1 2 3");
        expect.due("on the edge between them", m.add(4, 4), 4);
        expect.due("four triangles", Look.triangles(m), "0 3 4, 0 4 2, 1 2 4, 1 4 3");
        expect.due("on the other side of the hull", m.add(0, 6), 5);
        expect.due("on the third", m.add(6, 6), 6);
        expect.due("all corners", Look.counts(m), "7 0 6 12 6");
        expect.due("no edge over a point", m.edge(0, 1) + m.edge(1, 2) + m.edge(0, 2), 0);
        expect.due("on the line of a hull edge, outside", m.add(-6, 0), 7);
        expect.due("a corner too", m.edge(7, 0), 1);
    }

    private static void numbersOfTriangles() {
        expect.words("numbered from 0 on, by their first corner, of equal ones by their second, then by their third");
        MeshWalk m = World.FULL.make();
        int size = m.count(2);
        int before = -1;
        for (int i = 0; i < size; i++) {
            int a = m.corner(i, 0);
            int b = m.corner(i, 1);
            int c = m.corner(i, 2);
            expect.due("least first", a < b && a < c, true);
            expect.due("round to the left", m.side(a, b, c), 1);
            expect.due("in order", (a * 40 + b) * 40 + c > before, true);
            before = (a * 40 + b) * 40 + c;
        }
    }

    // ---- points on one circle

    /** All orders of the numbers below n. */
    private static List<int[]> orders(int n) {
        List<int[]> all = new ArrayList<>();
        if (n == 0) {
            all.add(new int[0]);
            return all;
        }
        for (int[] shorter : orders(n - 1)) {
            for (int at = 0; at < n; at++) {
                int[] order = new int[n];
                for (int i = 0, from = 0; i < n; i++) {
                    order[i] = i == at ? n - 1 : shorter[from++];
                }
                all.add(order);
            }
        }
        return all;
    }

    /** The object with ring's places in an order: place i of the ring gets the number order[i]. */
    private static MeshWalk onRing(int[][] ring, int[] order) {
        MeshWalk m = new MeshWalk();
        for (int number = 0; number < order.length; number++) {
            for (int i = 0; i < order.length; i++) {
                if (order[i] == number) {
                    m.add(ring[i][0], ring[i][1]);
                }
            }
        }
        return m;
    }

    /** The fan from the least number of a part of the ring, which goes round to the left. */
    private static void fan(TreeSet<String> into, List<Integer> part) {
        int least = 0;
        for (int i = 1; i < part.size(); i++) {
            least = part.get(i) < part.get(least) ? i : least;
        }
        for (int i = 1; i + 1 < part.size(); i++) {
            int a = part.get(least);
            int b = part.get((least + i) % part.size());
            int c = part.get((least + i + 1) % part.size());
            into.add(String.format("%02d %02d %02d", a, b, c));
        }
    }

    private static String found(MeshWalk m) {
        StringBuilder text = new StringBuilder();
        int size = m.count(2);
        for (int i = 0; i < size; i++) {
            text.append(i == 0 ? "" : ", ");
            text.append(String.format("%02d %02d %02d", m.corner(i, 0), m.corner(i, 1), m.corner(i, 2)));
        }
        return text.toString();
    }

    private static String fanOf(int[] order) {
        TreeSet<String> all = new TreeSet<>();
        List<Integer> part = new ArrayList<>();
        for (int number : order) {
            part.add(number);
        }
        fan(all, part);
        return String.join(", ", all);
    }

    /** Each side of the link between places from and to of the ring by itself. */
    private static String fansOf(int[] order, int from, int to) {
        TreeSet<String> all = new TreeSet<>();
        List<Integer> one = new ArrayList<>();
        List<Integer> other = new ArrayList<>();
        for (int i = 0; i < order.length; i++) {
            if (i >= from && i <= to) {
                one.add(order[i]);
            }
            if (i <= from || i >= to) {
                other.add(order[i]);
            }
        }
        fan(all, one);
        fan(all, other);
        return String.join(", ", all);
    }

    private static final int[][] SMALL = {{5, 0}, {3, 4}, {-4, 3}, {0, -5}};
    private static final int[][] CORNERS = {{FAR, FAR}, {-FAR, FAR}, {-FAR, -FAR}, {FAR, -FAR}};
    private static final int[][] FIVE = {{5, 0}, {4, 3}, {-3, 4}, {-5, 0}, {0, -5}};
    private static final int[][] TWELVE = {{5, 0}, {4, 3}, {3, 4}, {0, 5}, {-3, 4}, {-4, 3}, {-5, 0}, {-4, -3},
        {-3, -4}, {0, -5}, {3, -4}, {4, -3}};
    private static final int[][] WIDE = {{FAR, 77}, {77, FAR}, {-77, FAR}, {-FAR, 77}, {-FAR, -77}, {-77, -FAR},
        {77, -FAR}, {FAR, -77}};

    private static void fourOnOneCircle() {
        expect.words("or if it lies on it and the least number of the four is a or b");
        for (int[] order : orders(4)) {
            expect.due("four", found(onRing(SMALL, order)), fanOf(order));
            for (int from = 0; from < 2; from++) {
                MeshWalk m = onRing(SMALL, order);
                expect.due("link", m.link(order[from], order[from + 2]), true);
                expect.due("with a link", found(m), fansOf(order, from, from + 2));
                expect.due("it is an edge", m.edge(order[from + 2], order[from]), 2);
            }
        }
        for (int[] order : orders(5)) {
            expect.due("five", found(onRing(FIVE, order)), fanOf(order));
        }
    }

    private static void fourAtTheBounds() {
        expect.words("the least number of the four is a or b, at the bounds of the coordinates");
        for (int[] order : orders(4)) {
            MeshWalk m = onRing(CORNERS, order);
            expect.due("the corners of the plane", found(m), fanOf(order));
            expect.due("on one circle", m.circle(0, 1, 2, 3) + m.circle(3, 1, 2, 0) + m.circle(2, 3, 0, 1), 0);
            for (int from = 0; from < 2; from++) {
                MeshWalk linked = onRing(CORNERS, order);
                linked.link(order[from], order[from + 2]);
                expect.due("with a link", found(linked), fansOf(order, from, from + 2));
                linked.unlink(order[from], order[from + 2]);
                expect.due("and without it again", found(linked), fanOf(order));
            }
        }
    }

    /** Some orders of n numbers: steps of a fixed length round the ring, from several starts. */
    private static List<int[]> someOrders(int n) {
        List<int[]> some = new ArrayList<>();
        for (int step = 1; step < n; step++) {
            for (int start = 0; start < n; start++) {
                int[] order = new int[n];
                boolean[] used = new boolean[n];
                int at = start;
                for (int number = 0; number < n; number++) {
                    while (used[at]) {
                        at = (at + 1) % n;
                    }
                    order[at] = number;
                    used[at] = true;
                    at = (at + step) % n;
                }
                some.add(order);
            }
        }
        return some;
    }

    private static void manyOnOneCircle() {
        expect.words("more points on one circle: all edges are GOOD");
        for (int[] order : someOrders(12)) {
            expect.due("twelve", found(onRing(TWELVE, order)), fanOf(order));
        }
        for (int[] order : someOrders(8)) {
            expect.due("eight at the bounds", found(onRing(WIDE, order)), fanOf(order));
        }
    }

    private static void manyOnOneCircleWithALink() {
        expect.words("more points on one circle, with a LINK: An edge that is no LINK is GOOD if ..");
        for (int[] order : someOrders(8)) {
            for (int from = 0; from < 6; from++) {
                for (int to = from + 2; to < 8 && to - from < 7; to++) {
                    MeshWalk m = onRing(WIDE, order);
                    m.link(order[to], order[from]);
                    expect.due("link at " + from + " " + to, found(m), fansOf(order, from, to));
                }
            }
        }
    }

    private static void linkComesAndGoesOnOneCircle() {
        expect.words("there is just one such MESH: whatever was there before");
        for (int[] order : someOrders(12)) {
            MeshWalk m = onRing(TWELVE, order);
            m.link(order[1], order[7]);
            expect.due("linked", found(m), fansOf(order, 1, 7));
            m.link(order[2], order[8]);
            expect.due("crossing", m.count(1), 1);
            m.unlink(order[7], order[1]);
            expect.due("unlinked", found(m), fanOf(order));
            m.link(order[2], order[8]);
            expect.due("linked otherwise", found(m), fansOf(order, 2, 8));
        }
        MeshWalk late = Look.of(5, 0, -4, -3, 0, 5);
        late.link(1, 2);
        for (int[] p : new int[][] {{-5, 0}, {-3, 4}, {0, -5}, {3, 4}}) {
            late.add(p[0], p[1]);
        }
        expect.due("points after the link", Look.triangles(late), "0 1 5, 0 2 1, 0 6 2, 1 2 4, 1 4 3");
        late.unlink(1, 2);
        expect.due("and without it", Look.triangles(late), "0 1 5, 0 2 4, 0 3 1, 0 4 3, 0 6 2");
    }

    private static void offTheCircleByAHair() {
        expect.words("if d lies outside the circle through a, b, c");
        MeshWalk in = Look.of(-FAR, -FAR, FAR, -FAR, FAR, FAR, -FAR + 1, FAR);
        expect.due("point 3 is inside", in.circle(0, 1, 2, 3), 1);
        expect.due("so the edge is 1 3", Look.triangles(in), "0 1 3, 1 2 3");
        MeshWalk out = Look.of(-FAR + 1, -FAR, FAR, -FAR, FAR, FAR, -FAR, FAR);
        expect.due("point 3 is outside", out.circle(0, 1, 2, 3), -1);
        expect.due("so the edge is 0 2", Look.triangles(out), "0 1 2, 0 2 3");
        MeshWalk one = Look.of(-FAR, -FAR, FAR - 1, -FAR, FAR, FAR, -FAR, FAR);
        expect.due("point 3 is inside, as point 1 is nearer", one.circle(0, 1, 2, 3), 1);
        expect.due("so the edge is 1 3", Look.triangles(one), "0 1 3, 1 2 3");
    }

    private static void oneCircleInside() {
        expect.words("points on one circle with points around it and in it");
        MeshWalk around = Look.of(-FAR, -FAR, FAR, -FAR, 0, FAR, 5, 5, 5, -5, -5, 5, -5, -5);
        expect.due("the least of the inner four", around.edge(3, 6) + " " + around.edge(4, 5), "1 0");
        expect.due("with one in it: neither", around.add(0, 0), 7);
        expect.due("but edges to it", around.edge(7, 3) + around.edge(7, 4) + around.edge(7, 5) + around.edge(7, 6), 4);
        expect.due("and not over it", around.edge(3, 6) + around.edge(4, 5), 0);
        MeshWalk late = Look.of(-FAR, -FAR, FAR, -FAR, 0, FAR, 5, -5, 5, 5, -5, -5, -5, 5);
        expect.due("in another order", late.edge(3, 6) + " " + late.edge(4, 5), "1 0");
        late.link(4, 5);
        expect.due("a link", late.edge(3, 6) + " " + late.edge(4, 5), "0 2");
    }

    // ---- whatever is added, the mesh is the one that is due

    /** The words about the mesh, held against what the object tells: some 13 calls a triangle. */
    private static void isTheMesh(String what, MeshWalk m) {
        int size = m.count(2);
        int hull = m.count(4);
        expect.due(what + ": by Euler", size + " " + m.count(3), 2 * m.count(0) - 2 - hull + " " + (size * 3 + hull) / 2);
        int outer = 0;
        for (int i = 0; i < size; i++) {
            int[] t = {m.corner(i, 0), m.corner(i, 1), m.corner(i, 2)};
            expect.due(what + ": round to the left " + i, m.side(t[0], t[1], t[2]), 1);
            for (int k = 0; k < 3; k++) {
                int beyond = m.across(i, k);
                outer += beyond == NONE ? 1 : 0;
                if (beyond > i && m.edge(t[k], t[(k + 1) % 3]) == 1) {
                    expect.due(what + ": GOOD " + i + " " + k, isGood(m, t, k, beyond), true);
                }
            }
        }
        expect.due(what + ": edges with one triangle", outer, hull);
    }

    private static boolean isGood(MeshWalk m, int[] t, int k, int beyond) {
        int a = t[k];
        int b = t[(k + 1) % 3];
        int c = t[(k + 2) % 3];
        int d = m.corner(beyond, 0) + m.corner(beyond, 1) + m.corner(beyond, 2) - a - b;
        int in = m.circle(a, b, c, d);
        return in < 0 || in == 0 && Math.min(a, b) < Math.min(c, d);
    }

    private static void pointOnEachEdge() {
        expect.words("with no point on an edge but its ends: a new one on each edge");
        for (int a = 0; a < GARDEN.length; a++) {
            for (int b = a + 1; b < GARDEN.length; b++) {
                MeshWalk m = garden();
                int kind = m.edge(a, b);
                int got = m.add((GARDEN[a][0] + GARDEN[b][0]) / 2, (GARDEN[a][1] + GARDEN[b][1]) / 2);
                if (kind == 2) {
                    expect.due("on link " + a + " " + b, got, NONE);
                } else if (kind == 1) {
                    expect.due("on edge " + a + " " + b, got, 10);
                    expect.due("no edge over it", m.edge(a, b), 0);
                    isTheMesh("on edge " + a + " " + b, m);
                }
            }
        }
        MeshWalk flat = Look.of(0, 0, 40, 0, 20, -10, 20, 10, -10, -11, 50, -11, -10, 11, 50, 11);
        expect.due("near the middle of four", flat.add(20, 0), 8);
        isTheMesh("near the middle of four", flat);
    }

    private static void linkBetweenAnyTwo() {
        expect.words("each LINK is an edge");
        int made = 0;
        for (int a = 0; a < 20; a++) {
            for (int b = a + 1; b < 20; b++) {
                made += linkInGrid(a, b) ? 1 : 0;
            }
        }
        expect.due("how many links of a grid pass no point", made, 131);
    }

    // The numbers go through the grid in leaps, so that they are in no order on its lines.
    private static boolean linkInGrid(int a, int b) {
        MeshWalk m = new MeshWalk();
        for (int i = 0; i < 20; i++) {
            int at = i * 7 % 20;
            m.add(at % 5, at / 5);
        }
        boolean linked = m.link(b, a);
        expect.due("edge " + a + " " + b, m.edge(a, b) == 2, linked);
        isTheMesh("link " + a + " " + b, m);
        return linked;
    }

    /** Point 2 stands below the line from the link's end to point 3, so its edge over the link can't go first. */
    private static void linkUnderALeaningCorner() {
        expect.words("each LINK is an edge, whatever lies in its way");
        for (int up = -1; up <= 1; up += 2) {
            for (int way = -1; way <= 1; way += 2) {
                for (int from = 0; from < 2; from++) {
                    MeshWalk m = Look.of(0, 0, way * 100, 0, way * 30, up * 2, way * 60, up * 30, way * 50, up * -30);
                    expect.due("in its way", m.edge(2, 4) + " " + m.edge(3, 4) + " " + m.edge(0, 1), "1 1 0");
                    expect.due("linked", m.link(from, 1 - from), true);
                    expect.due("an edge", m.edge(0, 1), 2);
                    isTheMesh("leaning", m);
                }
            }
        }
    }

    // ---- where a place lies

    /** All coordinates are multiples of 6, so that middles of edges and triangles are whole. */
    private static MeshWalk garden() {
        MeshWalk m = Look.of(0, 0, 60, 0, 60, 60, 0, 60, 30, 24, 12, 36, 48, 42, 30, 0, 24, 54, 72, 30);
        m.link(4, 6);
        m.link(5, 4);
        m.link(0, 7);
        return m;
    }

    private static final int[][] GARDEN = {{0, 0}, {60, 0}, {60, 60}, {0, 60}, {30, 24}, {12, 36}, {48, 42}, {30, 0},
        {24, 54}, {72, 30}};

    private static void placesOfEveryKind() {
        expect.words("inside, on an edge, or at a corner; of several it is the one with the least number");
        MeshWalk m = garden();
        int size = m.count(2);
        int[] leastAt = new int[GARDEN.length];
        Arrays.fill(leastAt, size);
        for (int i = 0; i < size; i++) {
            int[] a = GARDEN[m.corner(i, 0)];
            int[] b = GARDEN[m.corner(i, 1)];
            int[] c = GARDEN[m.corner(i, 2)];
            expect.due("inside " + i, m.locate((a[0] + b[0] + c[0]) / 3, (a[1] + b[1] + c[1]) / 3), i);
            for (int k = 0; k < 3; k++) {
                int[] p = GARDEN[m.corner(i, k)];
                int[] q = GARDEN[m.corner(i, (k + 1) % 3)];
                int beyond = m.across(i, k);
                int due = beyond == NONE ? i : Math.min(i, beyond);
                expect.due("on edge " + i + " " + k, m.locate((p[0] + q[0]) / 2, (p[1] + q[1]) / 2), due);
                leastAt[m.corner(i, k)] = Math.min(leastAt[m.corner(i, k)], i);
            }
        }
        for (int p = 0; p < GARDEN.length; p++) {
            expect.due("at corner " + p, m.locate(GARDEN[p][0], GARDEN[p][1]), leastAt[p]);
        }
    }

    private static void placesOnLinks() {
        expect.words("of several it is the one with the least number, also on a LINK");
        MeshWalk m = World.WALKED.make();
        expect.due("on 4-0", m.locate(3, 3), 0);
        expect.due("at its end", m.locate(5, 5), 0);
        expect.due("at its other end", m.locate(0, 0), 0);
        expect.due("on the hull link", m.locate(10, 5), 2);
        m.link(4, 3);
        expect.due("on 4-3", m.locate(2, 8), 1);
        m.link(4, 2);
        expect.due("on 4-2", m.locate(7, 7), 2);
        m.unlink(4, 2);
        expect.due("without it", m.locate(7, 7), 2);
    }

    private static void placesJustOutside() {
        expect.words("NONE if it lies in none");
        MeshWalk m = World.WALKED.make();
        int[] along = {-1, 0, 1, 5, 9, 10, 11};
        for (int s : along) {
            expect.due("left of it " + s, m.locate(-1, s), NONE);
            expect.due("right of it " + s, m.locate(11, s), NONE);
            expect.due("below it " + s, m.locate(s, -1), NONE);
            expect.due("above it " + s, m.locate(s, 11), NONE);
            boolean in = s >= 0 && s <= 10;
            expect.due("its left side " + s, m.locate(0, s) != NONE, in);
            expect.due("its right side " + s, m.locate(10, s) != NONE, in);
            expect.due("its lower side " + s, m.locate(s, 0) != NONE, in);
            expect.due("its upper side " + s, m.locate(s, 10) != NONE, in);
        }
        MeshWalk thin = Look.of(-FAR, -FAR, FAR, FAR, FAR, FAR - 1);
        expect.due("on a long side", thin.locate(0, 0), 0);
        expect.due("above the long side", thin.locate(0, 1), NONE);
        expect.due("below the thin triangle", thin.locate(1, 0), NONE);
        expect.due("at its tip", thin.locate(-FAR, -FAR), 0);
        expect.due("beyond its tip", thin.locate(-FAR, 1 - FAR), NONE);
        expect.due("at its far end", thin.locate(FAR, FAR) + thin.locate(FAR, FAR - 1), 0);
        expect.due("next to its far end", thin.locate(FAR - 1, FAR - 2), NONE);
    }
}
