/** Each bound that the document names, at it and just beyond it: coordinates, how many points, numbers. */
public final class BoundsTest {
    private static final int NONE = Look.NONE;
    private static final int FAR = Look.FAR;
    private static final int LEAST = Integer.MIN_VALUE;
    private static final int GREATEST = Integer.MAX_VALUE;
    private static final Class<?> ILLEGAL = IllegalArgumentException.class;
    private static final Class<?> FULL_UP = IllegalStateException.class;
    private static final Class<?> OUT = IndexOutOfBoundsException.class;
    private static final Expect expect = new Expect();

    public static void main(String[] args) {
        addAtTheBounds();
        addBeyondTheBounds();
        locateAtTheBounds();
        locateBeyondTheBounds();
        wayAtTheBounds();
        wayBeyondTheBounds();
        fortiethPoint();
        fortyFirstPoint();
        fortyAgain();
        otherWhat();
        noSuchTriangle();
        noSuchPair();
        noSuchThree();
        noSuchFour();
        lastCall();
        expect.finish();
    }

    // ---- coordinates

    private static void addAtTheBounds() {
        expect.words("whole coordinates, -536,870,911 .. 536,870,911");
        int[] at = {-FAR, 1 - FAR, 0, FAR - 1, FAR};
        MeshWalk m = new MeshWalk();
        int number = 0;
        for (int x : at) {
            for (int y : at) {
                expect.due("add " + x + " " + y, m.add(x, y), number);
                expect.due("again " + x + " " + y, m.add(x, y), NONE);
                number++;
            }
        }
        expect.due("all of them", Look.counts(m), "25 0 32 56 16");
        for (int i = 0; i < 5; i++) {
            MeshWalk one = new MeshWalk();
            expect.due("x of the first point " + at[i], one.add(at[i], 7), 0);
            expect.due("y of the second point " + at[i], one.add(7, at[i]), 1);
        }
    }

    private static void addBeyondTheBounds() {
        expect.words("IllegalArgument: a coordinate is out of bounds");
        for (World world : World.values()) {
            for (int far : Look.BEYOND) {
                world.refuses(expect, "add x " + far, m -> m.add(far, 0));
                world.refuses(expect, "add y " + far, m -> m.add(0, far));
                world.refuses(expect, "add x " + far + " at the bound of y", m -> m.add(far, FAR));
                world.refuses(expect, "add y " + far + " at the bound of x", m -> m.add(-FAR, far));
                world.refuses(expect, "add both " + far, m -> m.add(far, far));
            }
        }
    }

    private static MeshWalk wholePlane() {
        return Look.of(-FAR, -FAR, FAR, -FAR, FAR, FAR, -FAR, FAR);
    }

    private static void locateAtTheBounds() {
        expect.words("PLACES have coordinates in the same bounds");
        MeshWalk m = wholePlane();
        expect.due("triangles", Look.triangles(m), "0 1 2, 0 2 3");
        expect.due("x as small as can be", m.locate(-FAR, 0), 1);
        expect.due("x as great as can be", m.locate(FAR, 0), 0);
        expect.due("y as small as can be", m.locate(0, -FAR), 0);
        expect.due("y as great as can be", m.locate(0, FAR), 1);
        expect.due("both as small", m.locate(-FAR, -FAR), 0);
        expect.due("both as great", m.locate(FAR, FAR), 0);
        expect.due("down to the right", m.locate(FAR, -FAR), 0);
        expect.due("up to the left", m.locate(-FAR, FAR), 1);
        expect.due("one step above the diagonal", m.locate(FAR - 1, FAR), 1);
        expect.due("one step below the diagonal", m.locate(FAR, FAR - 1), 0);
        MeshWalk small = Look.of(0, 0, 1, 0, 0, 1);
        for (int[] p : new int[][] {{-FAR, 0}, {FAR, 0}, {0, -FAR}, {0, FAR}}) {
            expect.due("far outside", small.locate(p[0], p[1]), NONE);
            expect.due("no mesh", new MeshWalk().locate(p[0], p[1]), NONE);
        }
    }

    private static void locateBeyondTheBounds() {
        expect.words("locate: IllegalArgument: a coordinate is out of bounds");
        for (World world : World.values()) {
            for (int far : Look.BEYOND) {
                world.refuses(expect, "locate x " + far, m -> m.locate(far, 0));
                world.refuses(expect, "locate y " + far, m -> m.locate(0, far));
                world.refuses(expect, "locate both " + far, m -> m.locate(far, far));
            }
        }
    }

    private static void wayAtTheBounds() {
        expect.words("way: PLACES have coordinates in the same bounds");
        MeshWalk m = wholePlane();
        expect.due("ax as small as can be", m.way(-FAR, 0, 1, 0), 0);
        expect.due("its row", Look.row(m), "1 0");
        expect.due("ax as great as can be", m.way(FAR, 0, 0, 1), 0);
        expect.due("its row", Look.row(m), "0 1");
        expect.due("ay as small as can be", m.way(0, -FAR, 0, 1), 0);
        expect.due("its row", Look.row(m), "0 1");
        expect.due("ay as great as can be", m.way(0, FAR, 1, 0), 0);
        expect.due("its row", Look.row(m), "1 0");
        expect.due("bx as small as can be", m.way(1, 0, -FAR, 0), 0);
        expect.due("its row", Look.row(m), "0 1");
        expect.due("bx as great as can be", m.way(0, 1, FAR, 0), 0);
        expect.due("its row", Look.row(m), "1 0");
        expect.due("by as small as can be", m.way(0, 1, 0, -FAR), 0);
        expect.due("its row", Look.row(m), "1 0");
        expect.due("by as great as can be", m.way(1, 0, 0, FAR), 0);
        expect.due("its row", Look.row(m), "0 1");
        expect.due("from corner to corner", m.way(FAR, -FAR, -FAR, FAR), 0);
        expect.due("its row", Look.row(m), "0 1");
        int end = m.add(FAR - 1, FAR - 2);
        m.link(0, end);
        expect.due("round an end near the bounds", m.way(FAR, -FAR, -FAR, FAR), 1);
        expect.due("its turn", m.turn(0), end);
    }

    private static void wayBeyondTheBounds() {
        expect.words("way: IllegalArgument: a coordinate is out of bounds");
        for (World world : World.values()) {
            for (int far : Look.BEYOND) {
                world.refuses(expect, "way ax " + far, m -> m.way(far, 1, 1, 5));
                world.refuses(expect, "way ay " + far, m -> m.way(5, far, 1, 5));
                world.refuses(expect, "way bx " + far, m -> m.way(5, 1, far, 5));
                world.refuses(expect, "way by " + far, m -> m.way(5, 1, 1, far));
                world.refuses(expect, "way from outside, by " + far, m -> m.way(-FAR, FAR, 1, far));
                world.refuses(expect, "way all " + far, m -> m.way(far, far, far, far));
            }
        }
    }

    // ---- how many points

    private static MeshWalk thirtyNine() {
        MeshWalk m = new MeshWalk();
        for (int i = 0; i < 39; i++) {
            m.add(i, i * i);
        }
        m.link(0, 2);
        return m;
    }

    private static void fortiethPoint() {
        expect.words("there are at most 40, no two at one place");
        MeshWalk m = thirtyNine();
        expect.due("39 points", Look.counts(m), "39 1 37 75 39");
        expect.due("one at a place", m.add(5, 25), NONE);
        expect.due("one on a link", m.add(1, 2), NONE);
        expect.illegal("one out of bounds", () -> m.add(FAR + 1, 5));
        expect.due("none of them counts", m.count(0), 39);
        expect.due("the 40th", m.add(39, 39 * 39), 39);
        expect.due("40 points", Look.counts(m), "40 1 38 77 40");
        expect.due("its edge", m.edge(38, 39), 1);
        expect.due("its link", m.link(39, 3), true);
        expect.due("the link of two greatest numbers", m.link(39, 38), true);
        expect.due("is a link", m.edge(38, 39), 2);
        expect.due("goes", m.unlink(38, 39), true);
        expect.due("the other stays", m.count(1), 2);
        expect.illegal("there is no point 40", () -> m.link(40, 0));
        expect.due("the 40th first", m.circle(39, 38, 37, 39), 0);
    }

    private static void fortyFirstPoint() {
        expect.words("IllegalState: there are 40");
        World.FULL.unchangedBy(expect, "a new place", FULL_UP, m -> m.add(-5, -5));
        World.FULL.unchangedBy(expect, "a place inside", FULL_UP, m -> m.add(10, 120));
        World.FULL.unchangedBy(expect, "at the first point", FULL_UP, m -> m.add(0, 0));
        World.FULL.unchangedBy(expect, "at the last point", FULL_UP, m -> m.add(39, 39 * 39));
        World.FULL.unchangedBy(expect, "on a link", FULL_UP, m -> m.add(1, 2));
        World.FULL.unchangedBy(expect, "at the bounds", FULL_UP, m -> m.add(FAR, -FAR));
        World.FULL.unchangedBy(expect, "at the other bounds", FULL_UP, m -> m.add(-FAR, FAR));
        World.FULL_LINE.unchangedBy(expect, "beside the line", FULL_UP, m -> m.add(0, 1));
        World.FULL_LINE.unchangedBy(expect, "on the line", FULL_UP, m -> m.add(-3, -1));
        expect.words("where it lists more than one exception, the first one wins");
        for (int far : Look.BEYOND) {
            World.FULL.unchangedBy(expect, "x " + far, ILLEGAL, m -> m.add(far, 0));
            World.FULL.unchangedBy(expect, "y " + far, ILLEGAL, m -> m.add(0, far));
            World.FULL_LINE.unchangedBy(expect, "both " + far, ILLEGAL, m -> m.add(far, far));
        }
    }

    private static void fortyAgain() {
        expect.words("No points, no LINKS; how many points there were");
        for (World world : new World[] {World.FULL, World.FULL_LINE}) {
            MeshWalk m = world.make();
            expect.due("40 cleared", m.clear(), 40);
            for (int i = 0; i < 40; i++) {
                expect.due("anew " + i, m.add(i % 8, i / 8), i);
            }
            expect.due("a grid", Look.counts(m), "40 0 56 95 22");
            expect.refused("one more", IllegalStateException.class, () -> m.add(9, 9));
            expect.due("cleared again", m.clear(), 40);
            expect.due("nothing", m.clear(), 0);
        }
    }

    // ---- numbers of things

    private static void otherWhat() {
        expect.words("NONE for another what");
        int[] other = {-1, 5, -2, 6, LEAST, GREATEST, 256, -256, LEAST + 4, 1 << 16};
        for (World world : World.values()) {
            for (int what : other) {
                world.unchangedBy(expect, "count " + what, NONE, m -> m.count(what));
            }
        }
        String[] due = {"0 0 0 0 0", "1 0 0 0 0", "2 1 0 0 0", "4 2 0 0 0", "3 0 1 3 3", "5 2 4 8 4", "0 0 0 0 0",
            "40 2 38 77 40", "40 39 0 0 0"};
        for (World world : World.values()) {
            expect.due(world + ", 0 to 4", Look.counts(world.make()), due[world.ordinal()]);
        }
    }

    private static void noSuchTriangle() {
        expect.words("there is no such triangle, or k is not 0 .. 2");
        for (World world : World.values()) {
            int size = world.triangles();
            for (int i : new int[] {-1, size, size + 1, LEAST, GREATEST}) {
                for (int k = 0; k < 3; k++) {
                    outside(world, i, k);
                }
                outside(world, i, -1);
                outside(world, i, 3);
            }
            for (int k : new int[] {-1, 3, 4, LEAST, GREATEST}) {
                outside(world, 0, k);
                outside(world, size - 1, k);
            }
        }
        MeshWalk m = World.WALKED.make();
        expect.due("the first and the last", Look.triangle(m, 0) + ", " + Look.triangle(m, 3), "0 1 4, 2 3 4");
        expect.due("beyond the first", m.across(0, 0) + " " + m.across(0, 1) + " " + m.across(0, 2), "-1 2 1");
        expect.due("beyond the last", m.across(3, 0) + " " + m.across(3, 1) + " " + m.across(3, 2), "-1 1 2");
    }

    private static void outside(World world, int i, int k) {
        world.unchangedBy(expect, "corner " + i + " " + k, OUT, m -> m.corner(i, k));
        world.unchangedBy(expect, "across " + i + " " + k, OUT, m -> m.across(i, k));
    }

    private static int[] noNumbers(int size) {
        return new int[] {-1, size, size + 1, LEAST, GREATEST};
    }

    private static void noSuchPair() {
        expect.words("there are no such points, or they are the same");
        for (World world : World.values()) {
            int size = world.points();
            for (int out : noNumbers(size)) {
                for (int in : new int[] {0, size - 1, out}) {
                    noPair(world, out, in);
                    noPair(world, in, out);
                }
            }
            noPair(world, 0, 0);
            noPair(world, size - 1, size - 1);
            noPair(world, 40, 41);
        }
    }

    private static void noPair(World world, int a, int b) {
        world.refuses(expect, "link " + a + " " + b, m -> m.link(a, b));
        world.refuses(expect, "unlink " + a + " " + b, m -> m.unlink(a, b));
        world.refuses(expect, "edge " + a + " " + b, m -> m.edge(a, b));
    }

    private static void noSuchThree() {
        expect.words("side: IllegalArgument: there are no such points");
        for (World world : World.values()) {
            int size = world.points();
            int last = Math.max(0, size - 1);
            for (int out : noNumbers(size)) {
                world.refuses(expect, "side " + out + " first", m -> m.side(out, 0, last));
                world.refuses(expect, "side " + out + " second", m -> m.side(last, out, 0));
                world.refuses(expect, "side " + out + " third", m -> m.side(0, last, out));
                world.refuses(expect, "side " + out + " thrice", m -> m.side(out, out, out));
            }
            if (size > 0) {
                world.unchangedBy(expect, "side of one point", 0, m -> m.side(last, last, last));
                world.unchangedBy(expect, "side of two points", 0, m -> m.side(0, last, 0));
            }
        }
    }

    private static void noSuchFour() {
        expect.words("there are no such points, or a, b, c are on one line");
        for (World world : World.values()) {
            int size = world.points();
            for (int out : noNumbers(size)) {
                world.refuses(expect, "circle " + out + " first", m -> m.circle(out, 1, 2, 0));
                world.refuses(expect, "circle " + out + " second", m -> m.circle(0, out, 2, 0));
                world.refuses(expect, "circle " + out + " third", m -> m.circle(0, 1, out, 0));
                world.refuses(expect, "circle " + out + " fourth", m -> m.circle(0, 1, 2, out));
            }
            world.refuses(expect, "circle of one", m -> m.circle(0, 0, 0, 1));
            world.refuses(expect, "circle of two", m -> m.circle(0, 1, 0, 2));
            world.refuses(expect, "circle of two", m -> m.circle(0, 1, 1, 2));
            world.refuses(expect, "circle of two", m -> m.circle(1, 1, 0, 2));
        }
        World.WALKED.refuses(expect, "on one line", m -> m.circle(0, 4, 2, 1));
        World.WALKED.refuses(expect, "on one line and no fourth", m -> m.circle(0, 4, 2, 5));
        World.ON_ONE_LINE.refuses(expect, "on one line", m -> m.circle(0, 1, 2, 3));
        circleOfWideLines();
        circleOfEverySize();
    }

    private static void circleOfWideLines() {
        MeshWalk m = Look.of(-FAR, -FAR, FAR, FAR, 0, 0, 1, 0, -FAR, FAR, FAR - 1, FAR);
        expect.illegal("on one line from bound to bound", () -> m.circle(0, 1, 2, 3));
        expect.illegal("in another order", () -> m.circle(2, 0, 1, 3));
        expect.due("one step beside the line: its middle is inside", m.circle(0, 1, 3, 2), 1);
        expect.due("the same the other way round", m.circle(1, 0, 3, 2), 1);
        expect.due("almost all of the far side is inside", m.circle(0, 1, 3, 4), 1);
        expect.due("not so with three in an angle", m.circle(0, 1, 5, 4), -1);
        expect.due("on it, as a corner is", m.circle(0, 1, 3, 0) + m.circle(0, 1, 3, 1) + m.circle(0, 1, 3, 3), 0);
    }

    /** The same figure at each power of two, for sums whose low digits are all 0. */
    private static void circleOfEverySize() {
        expect.words("Whether point d is inside the circle through a, b, c (1), on it (0), outside (-1)");
        for (int size = 1; size <= FAR / 3; size *= 2) {
            MeshWalk m = Look.of(0, 0, 2 * size, 0, 0, 2 * size, size, size, 2 * size, 2 * size, 3 * size, 2 * size,
                2 * size, 2 * size + 1, 2 * size - 1, 2 * size);
            expect.due("inside at " + size, m.circle(0, 1, 2, 3) + m.circle(1, 0, 2, 3), 2);
            expect.due("on it at " + size, m.circle(0, 1, 2, 4) + m.circle(1, 0, 2, 4), 0);
            expect.due("outside at " + size, m.circle(0, 1, 2, 5) + m.circle(1, 0, 2, 5), -2);
            expect.due("one step outside at " + size, m.circle(0, 1, 2, 6), -1);
            expect.due("one step inside at " + size, m.circle(0, 1, 2, 7), 1);
        }
    }

    // ---- how many calls

    private static void lastCall() {
        expect.words("An object is used for at most 512 calls");
        MeshWalk m = new MeshWalk();
        int calls = 0;
        for (int i = 0; i < 40; i++, calls++) {
            m.add(i % 2 == 0 ? i : -i, i * i);
        }
        for (int i = 0; calls < 510; i++, calls++) {
            if (i % 2 == 0) {
                m.link(0, 38);
            } else {
                m.unlink(0, 38);
            }
        }
        expect.due("call 511", m.link(0, 38), true);
        expect.due("call 512", m.edge(0, 38), 2);
    }
}
