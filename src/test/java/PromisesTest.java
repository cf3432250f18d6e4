/** Each promise of the document with ordinary inputs, its edges and wrong inputs. */
public final class PromisesTest {
    private static final int NONE = MeshWalk.NONE;
    private static final int FAR = 536870911;
    private static final Expect expect = new Expect();

    public static void main(String[] args) {
        newObject();
        add();
        addAtTheBounds();
        addFortyPoints();
        link();
        linkBendsTheMesh();
        unlink();
        clear();
        count();
        corner();
        leastNumberOnOneCircle();
        across();
        edge();
        side();
        circle();
        locate();
        way();
        wayThatIsRefused();
        wayAroundWalls();
        wayStraightBack();
        wayStraightOn();
        turn();
        sleeve();
        wideRow();
        expect.finish();
    }

    // ---- meshes to look at

    private static MeshWalk of(int... xy) {
        return Look.of(xy);
    }

    private static MeshWalk square() {
        return of(0, 0, 10, 0, 10, 10, 0, 10);
    }

    /** Triangles 0 1 4, 0 4 3, 1 2 4, 2 3 4. */
    private static MeshWalk squareWithMiddle() {
        return of(0, 0, 10, 0, 10, 10, 0, 10, 5, 5);
    }

    private static String triangles(MeshWalk m) {
        return Look.triangles(m);
    }

    private static String turns(MeshWalk m) {
        return Look.turns(m);
    }

    private static String row(MeshWalk m) {
        return Look.row(m);
    }

    private static String counts(MeshWalk m) {
        return Look.counts(m);
    }

    // ---- the promises

    private static void newObject() {
        expect.promise(1);
        MeshWalk m = new MeshWalk();
        expect.due("NONE", MeshWalk.NONE, -1);
        expect.due("counts", counts(m), "0 0 0 0 0");
        expect.due("turns", turns(m), "");
        expect.due("row", row(m), "");
        expect.due("turn(0)", m.turn(0), NONE);
        expect.due("sleeve(0)", m.sleeve(0), NONE);
        expect.due("locate", m.locate(0, 0), NONE);
        expect.due("way", m.way(0, 0, 1, 1), NONE);
        m.add(1, 1);
        expect.due("another one is empty", new MeshWalk().count(0), 0);
    }

    private static void add() {
        expect.promise(2);
        MeshWalk m = of(0, 0, 6, 4);
        expect.due("at a place", m.add(6, 4), NONE);
        expect.due("none more", m.count(0), 2);
        m.link(0, 1);
        expect.due("on a link", m.add(3, 2), NONE);
        expect.due("at the end of a link", m.add(0, 0), NONE);
        expect.due("none more", counts(m), "2 1 0 0 0");
        expect.due("beyond a link's end", m.add(9, 6), 2);
        expect.due("beside a link", m.add(3, 3), 3);
        expect.due("a mesh now", triangles(m), "0 1 3, 1 2 3");
        m.unlink(0, 1);
        expect.due("where the link was", m.add(3, 2), 4);
        expect.due("on an edge", triangles(m), "0 4 3, 1 2 3, 1 3 4");
        MeshWalk upright = of(5, 0, 5, 9, 0, 9, 9, 9);
        upright.link(0, 1);
        upright.link(2, 1);
        expect.due("on an upright link", upright.add(5, 4), NONE);
        expect.due("on a level link", upright.add(4, 9), NONE);
        expect.due("on a hull edge", upright.add(6, 9), 4);
        expect.due("each point a corner", triangles(upright), "0 1 2, 0 3 4, 0 4 1");
        MeshWalk empty = of(0, 0, 4, 0, 8, 0);
        expect.due("on one line: no mesh", counts(empty), "3 0 0 0 0");
        expect.due("beside it", empty.add(4, -3), 3);
        expect.due("a mesh", triangles(empty), "0 3 1, 1 3 2");
    }

    private static void addAtTheBounds() {
        expect.promise(2);
        MeshWalk m = of(FAR, FAR, -FAR, -FAR, FAR, -FAR, -FAR, FAR);
        expect.due("the whole plane", triangles(m), "0 1 2, 0 3 1");
        int[] beyond = {FAR + 1, -FAR - 1, Integer.MAX_VALUE, Integer.MIN_VALUE};
        for (int far : beyond) {
            expect.illegal("x " + far, () -> m.add(far, 0));
            expect.illegal("y " + far, () -> m.add(0, far));
        }
        expect.due("nothing changed", counts(m), "4 0 2 5 4");
    }

    private static void addFortyPoints() {
        expect.promise(2);
        MeshWalk m = new MeshWalk();
        for (int i = 0; i < 40; i++) {
            expect.due("add", m.add(i, i * i), i);
        }
        expect.due("a convex row", counts(m), "40 0 38 77 40");
        expect.refused("the 41st", IllegalStateException.class, () -> m.add(5, 5));
        expect.refused("at a place", IllegalStateException.class, () -> m.add(0, 0));
        expect.illegal("the first exception wins", () -> m.add(FAR + 1, 0));
        expect.due("nothing changed", counts(m), "40 0 38 77 40");
        m.clear();
        expect.due("from 0 on", m.add(5, 5), 0);
    }

    private static void link() {
        expect.promise(3);
        MeshWalk m = of(0, 0, 10, 0, 10, 10, 0, 10, 20, 0, 4, 5);
        expect.due("an edge", m.link(0, 1), true);
        expect.due("once more", m.link(0, 1), true);
        expect.due("the other way round", m.link(1, 0), true);
        expect.due("just one", m.count(1), 1);
        expect.due("a point on it", m.link(0, 4), false);
        expect.due("a shared end, straight on", m.link(1, 4), true);
        expect.due("a diagonal", m.link(0, 2), true);
        expect.due("crossing", m.link(1, 3), false);
        expect.due("crossing from a third point", m.link(5, 1), false);
        expect.due("shared ends", m.link(2, 3), true);
        expect.due("no more than these", m.count(1), 4);
        expect.due("the mesh has none of the refused", m.edge(1, 3) + m.edge(5, 1) + m.edge(0, 4), 0);
        expect.illegal("no such point", () -> m.link(0, 6));
        expect.illegal("no such point", () -> m.link(6, 0));
        expect.illegal("below 0", () -> m.link(-1, 0));
        expect.illegal("below 0", () -> m.link(0, -1));
        expect.illegal("the same", () -> m.link(2, 2));
        expect.illegal("the same, and no point", () -> new MeshWalk().link(0, 0));
        MeshWalk line = of(0, 0, 9, 9, 3, 3, 5, 5);
        expect.due("without a mesh: a point on it", line.link(0, 3), false);
        expect.due("without a mesh", line.link(3, 2), true);
        expect.due("side by side", line.link(3, 1), true);
        expect.due("links without a mesh", counts(line), "4 2 0 0 0");
        line.add(0, 9);
        expect.due("then edges", line.edge(2, 3) + line.edge(1, 3) + line.edge(0, 2), 5);
    }

    private static void linkBendsTheMesh() {
        expect.promise(3);
        MeshWalk m = of(0, 0, 100, 0, 20, 3, 40, -4, 50, 5, 60, -2, 80, 1, 50, 60, 50, -60);
        expect.due("no edge yet", m.edge(0, 1), 0);
        expect.due("through many", m.link(0, 1), true);
        expect.due("an edge now", m.edge(0, 1), 2);
        expect.due("all points and the hull are left", counts(m), "9 1 12 20 4");
        expect.due("the triangles", triangles(m),
            "0 1 6, 0 2 7, 0 3 5, 0 5 1, 0 6 2, 0 8 3, 1 5 8, 1 7 6, 2 4 7, 2 6 4, 3 8 5, 4 6 7");
        m.unlink(0, 1);
        expect.due("gone again", m.edge(0, 1), 0);
    }

    private static void unlink() {
        expect.promise(4);
        MeshWalk m = of(0, 0, 10, 1, 20, 0, 10, -1);
        expect.due("the short diagonal", triangles(m), "0 3 1, 1 3 2");
        expect.due("none there", m.unlink(0, 2), false);
        expect.due("an edge is no link", m.unlink(1, 3), false);
        m.link(0, 2);
        expect.due("the long diagonal", triangles(m), "0 2 1, 0 3 2");
        expect.due("gone", m.unlink(2, 0), true);
        expect.due("the short diagonal again", triangles(m), "0 3 1, 1 3 2");
        expect.due("no more", m.unlink(2, 0), false);
        expect.due("no links", m.count(1), 0);
        expect.illegal("no such point", () -> m.unlink(0, 4));
        expect.illegal("no such point", () -> m.unlink(4, 0));
        expect.illegal("below 0", () -> m.unlink(-1, 1));
        expect.illegal("the same", () -> m.unlink(1, 1));
        MeshWalk line = of(0, 0, 9, 9);
        line.link(0, 1);
        expect.due("without a mesh", line.unlink(0, 1), true);
        expect.due("then a point fits", line.add(4, 4), 2);
    }

    private static void clear() {
        expect.promise(5);
        MeshWalk m = squareWithMiddle();
        m.link(0, 4);
        m.link(4, 3);
        expect.due("a way", m.way(3, 4, 3, 6), 0);
        expect.due("how many", m.clear(), 5);
        expect.due("nothing there", counts(m), "0 0 0 0 0");
        expect.due("the last way stays", row(m), "1");
        expect.due("again", m.clear(), 0);
        expect.illegal("no points", () -> m.edge(0, 1));
        m.add(0, 0);
        m.add(10, 0);
        m.add(5, 5);
        expect.due("the old links are gone", m.count(1), 0);
        expect.due("the old triangles too", triangles(m), "0 1 2");
        expect.due("and the old edges", m.across(0, 0) + m.across(0, 1) + m.across(0, 2), -3);
        MeshWalk turned = of(0, 0, 10, 0, 10, 10, 0, 10, 5, 5);
        turned.link(1, 4);
        turned.way(9, 0, 10, 1);
        expect.due("a turn", turns(turned), "4");
        turned.clear();
        expect.due("the turn stays", turns(turned), "4");
    }

    private static void count() {
        expect.promise(6);
        MeshWalk m = squareWithMiddle();
        expect.due("counts", counts(m), "5 0 4 8 4");
        m.link(0, 4);
        m.link(1, 2);
        expect.due("with links", counts(m), "5 2 4 8 4");
        expect.due("five", m.count(5), NONE);
        expect.due("below 0", m.count(-1), NONE);
        expect.due("far off", m.count(Integer.MIN_VALUE) + m.count(Integer.MAX_VALUE), 2 * NONE);
        MeshWalk line = of(0, 0, 2, 1, 4, 2, 6, 3);
        line.link(1, 2);
        expect.due("on one line", counts(line), "4 1 0 0 0");
        expect.due("one triangle", counts(of(0, 0, 1, 0, 0, 1)), "3 0 1 3 3");
        expect.due("a point on the hull", counts(of(0, 0, 8, 0, 0, 8, 4, 4)), "4 0 2 5 4");
    }

    private static void corner() {
        expect.promise(7);
        MeshWalk m = squareWithMiddle();
        expect.due("triangles", triangles(m), "0 1 4, 0 4 3, 1 2 4, 2 3 4");
        expect.due("left round from the least", triangles(of(5, 5, 0, 0, 9, 0)), "0 1 2");
        expect.due("whatever the order", triangles(of(0, 0, 5, 5, 9, 0)), "0 2 1");
        expect.outOfBounds("i", () -> m.corner(4, 0));
        expect.outOfBounds("i below 0", () -> m.corner(-1, 0));
        expect.outOfBounds("k", () -> m.corner(0, 3));
        expect.outOfBounds("k below 0", () -> m.corner(0, -1));
        expect.outOfBounds("far off", () -> m.corner(Integer.MAX_VALUE, Integer.MIN_VALUE));
        expect.outOfBounds("no mesh", () -> of(0, 0, 1, 1, 2, 2).corner(0, 0));
    }

    private static void leastNumberOnOneCircle() {
        expect.promise(7);
        expect.due("the diagonal at 0", triangles(square()), "0 1 2, 0 2 3");
        expect.due("wherever 0 is", triangles(of(10, 0, 10, 10, 0, 10, 0, 0)), "0 1 2, 0 2 3");
        expect.due("of more points", triangles(of(4, 3, 5, 0, 3, 4, -4, 3, 0, 5, 4, -3)),
            "0 2 4, 0 3 5, 0 4 3, 0 5 1");
        MeshWalk cut = of(5, 0, 4, 3, 3, 4, 0, 5, -3, 4, -5, 0, 0, -5);
        cut.link(6, 2);
        expect.due("each side of a link by itself", triangles(cut), "0 1 2, 0 2 6, 2 3 4, 2 4 5, 2 5 6");
        MeshWalk wide = of(FAR, 0, 0, FAR, -FAR, 0, 0, -FAR);
        expect.due("at the bounds", triangles(wide), "0 1 2, 0 2 3");
        MeshWalk off = of(FAR, 0, 0, FAR, -FAR, 0, 1, -FAR);
        expect.due("one off the circle", triangles(off), "0 1 2, 0 2 3");
        MeshWalk in = of(FAR - 1, 0, 0, FAR, -FAR, 0, 0, -FAR);
        expect.due("one in the circle", triangles(in), "0 1 2, 0 2 3");
        MeshWalk inner = of(FAR, 0, 0, FAR - 1, -FAR, 0, 0, -FAR);
        expect.due("one in the circle, beside 0", triangles(inner), "0 1 3, 1 2 3");
    }

    private static void across() {
        expect.promise(8);
        MeshWalk m = squareWithMiddle();
        expect.due("over the hull", m.across(0, 0), NONE);
        expect.due("over 1 4", m.across(0, 1), 2);
        expect.due("over 4 0", m.across(0, 2), 1);
        expect.due("over 0 4", m.across(1, 0), 0);
        expect.due("over 4 3", m.across(1, 1), 3);
        expect.due("over 3 0", m.across(1, 2), NONE);
        m.link(0, 4);
        expect.due("over a link", m.across(0, 2), 1);
        expect.outOfBounds("i", () -> m.across(4, 0));
        expect.outOfBounds("i below 0", () -> m.across(-1, 0));
        expect.outOfBounds("k", () -> m.across(0, 3));
        expect.outOfBounds("k below 0", () -> m.across(0, -1));
        expect.outOfBounds("no mesh", () -> new MeshWalk().across(0, 0));
    }

    private static void edge() {
        expect.promise(9);
        MeshWalk m = square();
        expect.due("a hull edge", m.edge(0, 1), 1);
        expect.due("the diagonal", m.edge(2, 0), 1);
        expect.due("no edge", m.edge(1, 3), 0);
        m.link(3, 1);
        expect.due("a link", m.edge(1, 3), 2);
        expect.due("both ways", m.edge(3, 1), 2);
        expect.due("no edge any more", m.edge(0, 2), 0);
        m.link(0, 1);
        expect.due("a link on the hull", m.edge(1, 0), 2);
        MeshWalk line = of(0, 0, 1, 1, 2, 2);
        line.link(0, 1);
        expect.due("a link without a mesh", line.edge(0, 1), 0);
        expect.illegal("no such point", () -> m.edge(0, 4));
        expect.illegal("no such point", () -> m.edge(4, 0));
        expect.illegal("below 0", () -> m.edge(0, -1));
        expect.illegal("the same", () -> m.edge(3, 3));
    }

    private static void side() {
        expect.promise(10);
        MeshWalk m = of(0, 0, 10, 0, 5, 1, 20, 0);
        expect.due("left", m.side(0, 1, 2), 1);
        expect.due("right", m.side(1, 0, 2), -1);
        expect.due("on one line", m.side(0, 1, 3), 0);
        expect.due("the same points", m.side(2, 2, 2) + m.side(0, 2, 0), 0);
        MeshWalk far = of(-FAR, -FAR, FAR, FAR - 1, FAR - 1, FAR - 2, FAR, -FAR, -FAR, FAR, 0, 0);
        expect.due("hardly left", far.side(0, 1, 2), -1);
        expect.due("hardly right", far.side(0, 2, 1), 1);
        expect.due("as wide as can be", far.side(0, 3, 4), 1);
        expect.due("as wide the other way", far.side(0, 4, 3), -1);
        expect.due("through the middle", far.side(3, 4, 5), 0);
        expect.illegal("no such first", () -> m.side(4, 0, 1));
        expect.illegal("no such second", () -> m.side(0, 4, 1));
        expect.illegal("no such third", () -> m.side(0, 1, 4));
        expect.illegal("below 0", () -> m.side(0, -1, 1));
    }

    private static void circle() {
        expect.promise(11);
        MeshWalk m = of(-5, 0, 5, 0, 0, 5, 0, -5, 3, 3, 4, 4, 15, 0);
        expect.due("on it", m.circle(0, 1, 2, 3), 0);
        expect.due("inside", m.circle(0, 1, 2, 4), 1);
        expect.due("outside", m.circle(0, 1, 2, 5), -1);
        expect.due("right round: on it", m.circle(1, 0, 2, 3), 0);
        expect.due("right round: inside", m.circle(1, 0, 2, 4), 1);
        expect.due("right round: outside", m.circle(1, 0, 2, 5), -1);
        expect.due("a corner", m.circle(0, 1, 2, 1), 0);
        MeshWalk far = of(-FAR, -FAR, FAR, -FAR, FAR, FAR, -FAR, FAR, -FAR, FAR - 1, FAR - 1, FAR);
        expect.due("the corners of the plane", far.circle(0, 1, 2, 3), 0);
        expect.due("one step inside", far.circle(0, 1, 2, 4), 1);
        expect.due("one step outside", far.circle(0, 1, 4, 3), -1);
        expect.due("one step inside, right round", far.circle(2, 1, 0, 5), 1);
        MeshWalk flat = of(-FAR, 0, 0, 1, FAR, 0, 0, -FAR, 0, FAR);
        expect.due("a vast circle: inside", flat.circle(0, 1, 2, 3), 1);
        expect.due("a vast circle: outside", flat.circle(0, 1, 2, 4), -1);
        expect.illegal("on one line", () -> m.circle(0, 1, 6, 2));
        expect.illegal("the same", () -> m.circle(0, 0, 1, 2));
        expect.illegal("no such first", () -> m.circle(7, 1, 2, 3));
        expect.illegal("no such second", () -> m.circle(0, 7, 2, 3));
        expect.illegal("no such third", () -> m.circle(0, 1, 7, 3));
        expect.illegal("no such fourth", () -> m.circle(0, 1, 2, 7));
        expect.illegal("below 0", () -> m.circle(0, 1, 2, -1));
    }

    private static void locate() {
        expect.promise(12);
        MeshWalk m = squareWithMiddle();
        expect.due("inside", m.locate(5, 2), 0);
        expect.due("inside the last", m.locate(5, 8), 3);
        expect.due("on an edge of 2 and 3", m.locate(8, 8), 2);
        expect.due("on an edge of 0 and 1", m.locate(1, 1), 0);
        expect.due("at the middle", m.locate(5, 5), 0);
        expect.due("at a corner", m.locate(0, 10), 1);
        expect.due("on the hull", m.locate(10, 4), 2);
        expect.due("just outside", m.locate(11, 4), NONE);
        expect.due("on the line of a hull edge", m.locate(12, 0), NONE);
        expect.due("no mesh", of(0, 0, 2, 2, 4, 4).locate(2, 2), NONE);
        MeshWalk far = of(-FAR, -FAR, FAR, -FAR, 0, FAR);
        expect.due("at the bounds", far.locate(FAR, -FAR) + far.locate(-FAR, -FAR), 0);
        expect.due("outside at the bounds", far.locate(FAR, FAR), NONE);
        int[] beyond = {FAR + 1, -FAR - 1, Integer.MAX_VALUE, Integer.MIN_VALUE};
        for (int out : beyond) {
            expect.illegal("x " + out, () -> far.locate(out, 0));
            expect.illegal("y " + out, () -> far.locate(0, out));
            expect.illegal("no mesh", () -> new MeshWalk().locate(out, 0));
        }
    }

    private static void way() {
        expect.promise(13);
        MeshWalk m = squareWithMiddle();
        expect.due("in one triangle", m.way(4, 1, 6, 1), 0);
        expect.due("its row", row(m), "0");
        expect.due("from place to same place", m.way(5, 5, 5, 5), 0);
        expect.due("into the next", m.way(5, 1, 9, 5), 0);
        expect.due("its row", row(m), "0 2");
        expect.due("to the far one", m.way(5, 1, 6, 9), 1);
        expect.due("by the lesser second", row(m), "0 1 3");
        expect.due("its turn", turns(m), "4");
        expect.due("and back", m.way(6, 9, 5, 1), 1);
        expect.due("by the lesser second", row(m), "3 1 0");
        expect.due("to the other far one", m.way(1, 6, 9, 6), 1);
        expect.due("by the lesser second", row(m), "1 0 2");
        m.link(4, 0);
        expect.due("a link shuts an edge", m.way(5, 1, 1, 5), 1);
        expect.due("so round the other way", row(m), "0 2 3 1");
        expect.due("its turn", turns(m), "4");
        m.link(4, 1);
        expect.due("shut in", m.way(5, 1, 1, 5), NONE);
        expect.due("the last row stays", row(m), "0 2 3 1");
        expect.due("the last turn stays", turns(m), "4");
        expect.due("inside there is a way", m.way(5, 1, 5, 2), 0);
    }

    private static void wayThatIsRefused() {
        expect.promise(13);
        MeshWalk m = squareWithMiddle();
        m.link(4, 0);
        m.way(5, 1, 1, 5);
        expect.due("from outside", m.way(11, 5, 5, 5), NONE);
        expect.due("to outside", m.way(5, 5, -1, 5), NONE);
        int[] beyond = {FAR + 1, -FAR - 1, Integer.MAX_VALUE, Integer.MIN_VALUE};
        for (int far : beyond) {
            expect.illegal("ax " + far, () -> m.way(far, 0, 0, 0));
            expect.illegal("ay " + far, () -> m.way(0, far, 0, 0));
            expect.illegal("bx " + far, () -> m.way(0, 0, far, 0));
            expect.illegal("by " + far, () -> m.way(0, 0, 0, far));
            expect.illegal("outside too " + far, () -> m.way(20, 20, 0, far));
        }
        expect.due("the last row stays", row(m), "0 2 3 1");
        expect.due("the last turn stays", turns(m), "4");
        expect.due("no mesh", of(0, 0, 1, 1).way(0, 0, 1, 1), NONE);
    }

    private static void wayAroundWalls() {
        expect.promise(13);
        MeshWalk m = of(0, 0, 90, 0, 90, 40, 0, 40, 30, 0, 30, 30, 60, 40, 60, 10);
        m.link(4, 5);
        m.link(6, 7);
        expect.due("two walls", m.way(1, 1, 89, 39), 2);
        expect.due("their ends", turns(m), "5 7");
        expect.due("back", m.way(89, 39, 1, 1), 2);
        expect.due("their ends", turns(m), "7 5");
        expect.due("from one end on", m.way(30, 30, 89, 39), 1);
        expect.due("no turn at the beginning", turns(m), "7");
        expect.due("to the other end", m.way(1, 1, 60, 10), 1);
        expect.due("no turn at the end", turns(m), "5");
        expect.due("from end to end", m.way(30, 30, 60, 10), 0);
        expect.due("touching no end", m.way(31, 31, 59, 9), 0);
    }

    /** The place 0, 5 on the link lies in the right half, the point 2 above in the left one. */
    private static void wayStraightBack() {
        expect.promise(13);
        MeshWalk m = of(-10, 10, 10, 10, 0, 10, 0, 0, -8, 2, -4, -10, 10, -10);
        m.link(2, 3);
        expect.due("to the right", m.corner(m.locate(0, 5), 0), 1);
        expect.due("to the left", m.corner(m.locate(0, 10), 0), 0);
        expect.due("round the end", m.way(0, 5, 0, 10), 1);
        expect.due("its turn", turns(m), "3");
        expect.due("and back", m.way(0, 10, 0, 5), 1);
        expect.due("its turn", turns(m), "3");
        expect.due("from the end itself", m.way(0, 0, 0, 10), 0);
        expect.due("to the end itself", m.way(0, 10, 0, 0), 0);
    }

    private static void wayStraightOn() {
        expect.promise(13);
        MeshWalk m = of(0, 0, 20, 0, 20, 20, 0, 20, 5, 5, 10, 10, 15, 15);
        expect.due("along points", m.way(0, 0, 20, 20), 0);
        expect.due("through points", m.way(1, 1, 19, 19), 0);
        m.link(4, 5);
        m.link(5, 6);
        expect.due("along links", m.way(1, 1, 19, 19), 0);
        MeshWalk bend = of(0, 0, 40, 0, 40, 40, 0, 40, 10, 20, 20, 20, 30, 20);
        bend.link(4, 5);
        bend.link(5, 6);
        expect.due("round both ends", bend.way(20, 19, 20, 21), 1);
        expect.due("not at the middle of the wall", bend.turn(0) == 4 || bend.turn(0) == 6, true);
    }

    private static void turn() {
        expect.promise(14);
        MeshWalk m = of(0, 0, 90, 0, 90, 40, 0, 40, 30, 0, 30, 30, 60, 40, 60, 10);
        m.link(4, 5);
        m.link(6, 7);
        m.way(1, 1, 89, 39);
        expect.due("turn(0)", m.turn(0), 5);
        expect.due("turn(1)", m.turn(1), 7);
        expect.due("turn(2)", m.turn(2), NONE);
        expect.due("turn(-1)", m.turn(-1), NONE);
        expect.due("far off", m.turn(Integer.MAX_VALUE) + m.turn(Integer.MIN_VALUE), 2 * NONE);
        m.unlink(4, 5);
        m.add(50, 20);
        expect.due("of the way as it was", turns(m), "5 7");
        m.way(1, 1, 2, 1);
        expect.due("of the new way", m.turn(0), NONE);
    }

    private static void sleeve() {
        expect.promise(15);
        MeshWalk m = squareWithMiddle();
        m.way(9, 5, 1, 5);
        expect.due("sleeve(0)", m.sleeve(0), 2);
        expect.due("sleeve(1)", m.sleeve(1), 0);
        expect.due("sleeve(2)", m.sleeve(2), 1);
        expect.due("sleeve(3)", m.sleeve(3), NONE);
        expect.due("sleeve(-1)", m.sleeve(-1), NONE);
        expect.due("far off", m.sleeve(Integer.MAX_VALUE) + m.sleeve(Integer.MIN_VALUE), 2 * NONE);
        m.add(5, 1);
        expect.due("as it was numbered then", row(m), "2 0 1");
        m.clear();
        expect.due("after clear", row(m), "2 0 1");
        m.way(0, 0, 1, 1);
        expect.due("after none", row(m), "2 0 1");
    }

    /** 40 points with 3 on the hull make 75 triangles, as many as there can be. */
    private static void wideRow() {
        expect.promise(15);
        MeshWalk m = of(-FAR, -FAR, FAR, -FAR, 0, FAR);
        for (int i = 0; i < 37; i++) {
            m.add(i % 2 == 0 ? i : -i, i * 10);
        }
        expect.due("as many as can be", counts(m), "40 0 75 114 3");
        for (int i = 3; i + 2 < 40; i += 1) {
            m.link(i, i + 2);
        }
        expect.due("from end to end", m.way(0, -1, 0, 361) >= 0, true);
    }
}
