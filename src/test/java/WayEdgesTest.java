/** Which row a way takes, where it turns, and how long the last way stays. */
public final class WayEdgesTest {
    private static final int NONE = Look.NONE;
    private static final int FAR = Look.FAR;
    private static final Expect expect = new Expect();

    public static void main(String[] args) {
        bothPlacesTheSame();
        bothInOneTriangle();
        fromTheTriangleOfLeastNumber();
        leastSecond();
        leastThird();
        fewestFirst();
        inNoTriangle();
        shutIn();
        onTheLinkThatShutsIn();
        hullLinksShutNothing();
        pastAPointStraightOn();
        turnByAHair();
        straightBack();
        straightBackPastAPoint();
        backToTheBeginning();
        fromAndToPoints();
        manyTurns();
        beforeTheFirstWay();
        noSuchTurnNorTriangle();
        lastWayStays();
        refusedWayStays();
        asItWasNumberedThen();
        newWayTakesItsPlace();
        expect.finish();
    }

    private static void way(String what, MeshWalk m, int[] places, String due) {
        int turns = m.way(places[0], places[1], places[2], places[3]);
        expect.due(what, turns + ": " + Look.lastWay(m), due);
    }

    private static int[] at(int... places) {
        return places;
    }

    /** Triangles 0 1 4, 0 4 3, 1 2 4, 2 3 4. */
    private static MeshWalk square() {
        return Look.of(0, 0, 10, 0, 10, 10, 0, 10, 5, 5);
    }

    // ---- the row

    private static void bothPlacesTheSame() {
        expect.words("from one place to another: both the same");
        MeshWalk m = World.WALKED.make();
        way("inside", m, at(5, 8, 5, 8), "0: 3 | ");
        way("on an edge", m, at(8, 8, 8, 8), "0: 2 | ");
        way("on a link", m, at(2, 2, 2, 2), "0: 0 | ");
        way("on the hull", m, at(0, 5, 0, 5), "0: 1 | ");
        way("on a hull link", m, at(10, 5, 10, 5), "0: 2 | ");
        way("at a point", m, at(5, 5, 5, 5), "0: 0 | ");
        way("at a hull point", m, at(10, 10, 10, 10), "0: 2 | ");
        way("outside", m, at(11, 10, 11, 10), "-1: 2 | ");
        way("no mesh", World.ON_ONE_LINE.make(), at(0, 0, 0, 0), "-1:  | ");
        way("no points", World.NEW.make(), at(0, 0, 0, 0), "-1:  | ");
    }

    private static void bothInOneTriangle() {
        expect.words("from one place to another: both in one triangle");
        MeshWalk m = World.ONE_TRIANGLE.make();
        way("inside", m, at(1, 1, 2, 5), "0: 0 | ");
        way("from edge to edge", m, at(5, 0, 0, 5), "0: 0 | ");
        way("along an edge", m, at(1, 9, 9, 1), "0: 0 | ");
        way("from corner to corner", m, at(10, 0, 0, 10), "0: 0 | ");
        m.link(0, 1);
        m.link(1, 2);
        m.link(2, 0);
        way("with links all around", m, at(10, 0, 0, 10), "0: 0 | ");
        MeshWalk walked = World.WALKED.make();
        way("along a link", walked, at(1, 1, 4, 4), "0: 0 | ");
        way("from end to end of a link", walked, at(0, 0, 5, 5), "0: 0 | ");
    }

    private static void fromTheTriangleOfLeastNumber() {
        expect.words("from that in which the first lies to that in which the other lies");
        MeshWalk m = square();
        way("from the edge of 2 and 3", m, at(8, 8, 5, 8), "0: 2 3 | ");
        way("to the edge of 2 and 3", m, at(5, 8, 8, 8), "0: 3 2 | ");
        way("from the middle to the last", m, at(5, 5, 5, 8), "0: 0 1 3 | ");
        way("from the last to the middle", m, at(5, 8, 5, 5), "0: 3 1 0 | ");
        way("from the corner of 2 and 3", m, at(10, 10, 5, 8), "0: 2 3 | ");
        way("from the corner of 1 and 3", m, at(0, 10, 5, 8), "0: 1 3 | ");
    }

    private static void leastSecond() {
        expect.words("of such rows the one whose second triangle has the least number");
        MeshWalk m = square();
        way("0 to 3", m, at(5, 1, 5, 9), "0: 0 1 3 | ");
        way("3 to 0", m, at(5, 9, 5, 1), "0: 3 1 0 | ");
        way("1 to 2", m, at(1, 5, 9, 5), "0: 1 0 2 | ");
        way("2 to 1", m, at(9, 5, 1, 5), "0: 2 0 1 | ");
        way("on the wrong side of the middle", m, at(6, 1, 6, 9), "1: 0 1 3 | 4");
        m.link(0, 4);
        way("0 to 3 with the lesser one shut", m, at(6, 1, 6, 9), "0: 0 2 3 | ");
        way("1 to 2 with the lesser one shut", m, at(1, 5, 9, 5), "0: 1 3 2 | ");
    }

    private static void leastThird() {
        expect.words("then the third, and so on");
        MeshWalk m = Look.of(0, 0, 10, 0, 10, 10, 0, 10, 5, 5, 20, 5);
        expect.due("triangles", Look.triangles(m), "0 1 4, 0 4 3, 1 2 4, 1 5 2, 2 3 4");
        way("below the middle", m, at(15, 5, 1, 5), "0: 3 2 0 1 | ");
        way("below the middle, from above", m, at(15, 6, 1, 6), "1: 3 2 0 1 | 4");
        way("back", m, at(1, 6, 15, 6), "1: 1 0 2 3 | 4");
        MeshWalk other = Look.of(0, 10, 0, 0, 10, 0, 10, 10, 5, 5, 20, 5);
        expect.due("triangles", Look.triangles(other), "0 1 4, 0 4 3, 1 2 4, 2 3 4, 2 5 3");
        way("above the middle", other, at(15, 5, 1, 5), "0: 4 3 1 0 | ");
        way("above the middle, from below", other, at(15, 4, 1, 4), "1: 4 3 1 0 | 4");
        way("back", other, at(1, 4, 15, 4), "1: 0 1 3 4 | 4");
    }

    /** Five triangles about point 0; the short way from the first to the second one goes through the last. */
    private static MeshWalk pentagon() {
        return Look.of(0, 0, 10, 0, -8, 6, -8, -6, 3, -10, 3, 10);
    }

    private static void fewestFirst() {
        expect.words("as few as can be");
        MeshWalk m = pentagon();
        expect.due("triangles", Look.triangles(m), "0 1 5, 0 2 3, 0 3 4, 0 4 1, 0 5 2");
        way("through the greatest number", m, at(4, 3, -5, 0), "0: 0 4 1 | ");
        way("and back", m, at(-5, 0, 4, 3), "0: 1 4 0 | ");
        m.link(5, 0);
        way("the long way round if that is shut", m, at(4, 3, -5, 0), "1: 0 3 2 1 | 0");
        way("and back", m, at(-5, 0, 4, 3), "1: 1 2 3 0 | 0");
        m.link(0, 2);
        way("as before if both its sides are shut", m, at(4, 3, -5, 0), "1: 0 3 2 1 | 0");
        m.link(0, 3);
        way("none left", m, at(4, 3, -5, 0), "-1: 0 3 2 1 | 0");
        m.unlink(2, 0);
        way("still none", m, at(4, 3, -5, 0), "-1: 0 3 2 1 | 0");
        m.unlink(0, 5);
        way("the short one again", m, at(4, 3, -5, 0), "0: 0 4 1 | ");
    }

    private static void inNoTriangle() {
        expect.words("NONE (and the last way stays) if one of them lies in no triangle");
        for (World world : new World[] {World.ONE_TRIANGLE, World.WALKED, World.FULL}) {
            world.unchangedBy(expect, "from outside", NONE, m -> m.way(-1, 5, 1, 2));
            world.unchangedBy(expect, "to outside", NONE, m -> m.way(1, 2, 5, -1));
            world.unchangedBy(expect, "both outside", NONE, m -> m.way(-1, 5, 5, -1));
            world.unchangedBy(expect, "at the bounds", NONE, m -> m.way(-FAR, FAR, FAR, -FAR));
            world.unchangedBy(expect, "to the bounds", NONE, m -> m.way(1, 2, FAR, FAR));
            world.unchangedBy(expect, "the same one outside", NONE, m -> m.way(-1, -1, -1, -1));
        }
        for (World world : new World[] {World.NEW, World.ONE_POINT, World.TWO_LINKED, World.ON_ONE_LINE,
            World.CLEARED, World.FULL_LINE}) {
            world.unchangedBy(expect, "no mesh", NONE, m -> m.way(0, 0, 6, 6));
            world.unchangedBy(expect, "no mesh, one place", NONE, m -> m.way(0, 0, 0, 0));
        }
    }

    private static MeshWalk cell() {
        MeshWalk m = World.WALKED.make();
        m.link(4, 1);
        return m;
    }

    private static void shutIn() {
        expect.words("or there is no SLEEVE");
        MeshWalk m = cell();
        way("out of it", m, at(5, 1, 5, 9), "-1: 0 2 3 1 | 4");
        way("out of it to the next", m, at(5, 1, 9, 5), "-1: 0 2 3 1 | 4");
        way("into it", m, at(5, 9, 5, 1), "-1: 0 2 3 1 | 4");
        way("in it", m, at(5, 1, 5, 2), "0: 0 | ");
        way("outside of it", m, at(9, 5, 1, 5), "0: 2 3 1 | ");
        way("out of it", m, at(5, 1, 9, 5), "-1: 2 3 1 | ");
        m.unlink(1, 4);
        way("open again", m, at(5, 1, 9, 5), "0: 0 2 | ");
        MeshWalk all = square();
        for (int i = 0; i < 4; i++) {
            all.link(4, i);
        }
        int[][] in = {{5, 1}, {1, 5}, {9, 5}, {5, 9}};
        for (int a = 0; a < 4; a++) {
            for (int b = 0; b < 4; b++) {
                int due = a == b ? 0 : NONE;
                expect.due("cell " + a + " to " + b, all.way(in[a][0], in[a][1], in[b][0], in[b][1]), due);
            }
        }
    }

    private static void onTheLinkThatShutsIn() {
        expect.words("or there is no SLEEVE: from that in which the first lies, on a LINK");
        MeshWalk m = cell();
        way("a place on the link lies in the cell", m, at(7, 3, 5, 1), "0: 0 | ");
        way("so there is no way to the other side", m, at(7, 3, 9, 5), "-1: 0 | ");
        way("nor from there", m, at(9, 5, 7, 3), "-1: 0 | ");
        way("the same with its end", m, at(5, 5, 9, 5), "-1: 0 | ");
        way("and its other end", m, at(9, 5, 10, 0), "-1: 0 | ");
        way("both ends are in the cell", m, at(5, 5, 10, 0), "0: 0 | ");
        way("a point that is not", m, at(10, 10, 9, 5), "0: 2 | ");
    }

    private static void hullLinksShutNothing() {
        expect.words("each next to the one before by an edge that is no LINK");
        MeshWalk m = square();
        for (int i = 0; i < 4; i++) {
            m.link(i, (i + 1) % 4);
        }
        way("0 to 3", m, at(6, 1, 6, 9), "1: 0 1 3 | 4");
        way("along the hull", m, at(0, 0, 10, 10), "0: 0 2 | ");
        m.link(0, 4);
        m.link(4, 2);
        way("a wall from corner to corner", m, at(6, 1, 6, 9), "-1: 0 2 | ");
        way("on its one side", m, at(6, 1, 9, 5), "0: 0 2 | ");
        way("on its other side", m, at(1, 5, 6, 9), "0: 1 3 | ");
    }

    // ---- the turns

    private static void pastAPointStraightOn() {
        expect.words("where it goes on in another direction: not where it goes straight on");
        MeshWalk hull = Look.of(0, 0, 20, 0, 10, 0, 10, 10);
        way("along the hull past a point", hull, at(5, 0, 15, 0), "0: 0 1 | ");
        way("and back", hull, at(15, 0, 5, 0), "0: 1 0 | ");
        way("from end to end", hull, at(0, 0, 20, 0), "0: 0 1 | ");
        MeshWalk m = Look.of(0, 0, 40, 0, 40, 40, 0, 40, 10, 10, 20, 20, 30, 30);
        expect.due("along edges past three", m.way(5, 5, 35, 35), 0);
        expect.due("past three from end to end", m.way(0, 0, 40, 40), 0);
        expect.due("from point to point past one", m.way(10, 10, 30, 30), 0);
        expect.due("none of them is a turn", Look.turns(m), "");
        m.link(4, 5);
        m.link(5, 6);
        expect.due("along links", m.way(5, 5, 35, 35), 0);
        expect.due("along links, back", m.way(35, 35, 5, 5), 0);
        expect.due("from end to end of the links", m.way(10, 10, 30, 30), 0);
        MeshWalk gaps = Look.of(0, 0, 40, 0, 40, 20, 0, 20, 10, 0, 10, 10, 20, 20, 20, 10, 30, 0, 30, 10);
        gaps.link(4, 5);
        gaps.link(6, 7);
        gaps.link(8, 9);
        expect.due("touching the ends of walls from both sides", gaps.way(1, 10, 39, 10), 0);
        expect.due("no turns", Look.turns(gaps), "");
        expect.due("one step lower", gaps.way(1, 9, 39, 10), 1);
        expect.due("a turn at the first", Look.turns(gaps), "5");
        expect.due("one step lower on both sides", gaps.way(1, 9, 39, 9), 2);
        expect.due("a turn at two, straight past the one between them", Look.turns(gaps), "5 9");
    }

    /** A wall from the lower side of the plane up to a place. */
    private static MeshWalk wallUpTo(int x, int y) {
        MeshWalk m = Look.of(-FAR, -FAR, FAR, -FAR, FAR, FAR, -FAR, FAR, x, -FAR, x, y);
        m.link(4, 5);
        return m;
    }

    private static void turnByAHair() {
        expect.words("where it goes on in another direction, be it ever so little");
        int[] across = {-FAR, 0, FAR, 0};
        expect.due("over one step", wallUpTo(0, 1).way(-FAR, 0, FAR, 0), 1);
        expect.due("just touching", wallUpTo(0, 0).way(-FAR, 0, FAR, 0), 0);
        expect.due("one step below", wallUpTo(0, -1).way(-FAR, 0, FAR, 0), 0);
        expect.due("over one step, back", wallUpTo(0, 1).way(FAR, 0, -FAR, 0), 1);
        expect.due("half a step above the line", wallUpTo(0, 0).way(-FAR, -FAR, FAR, FAR - 1), 1);
        expect.due("half a step below the line", wallUpTo(0, -1).way(-FAR, -FAR, FAR, FAR - 1), 0);
        expect.due("at the very side", wallUpTo(1 - FAR, 1).way(across[0], across[1], across[2], across[3]), 1);
        expect.due("at the other side", wallUpTo(FAR - 1, 1).way(across[0], across[1], across[2], across[3]), 1);
        MeshWalk m = wallUpTo(0, FAR - 1);
        expect.due("all the way up", m.way(-1, -FAR, 1, -FAR), 1);
        expect.due("its turn", Look.turns(m), "5");
    }

    /** A wall down from point 2 to point 3; places on it lie to its right, point 2 lies to its left. */
    private static MeshWalk deadEnd() {
        MeshWalk m = Look.of(-10, 10, 10, 10, 0, 10, 0, 0, -8, 2, -4, -10, 10, -10);
        m.link(2, 3);
        return m;
    }

    private static void straightBack() {
        expect.words("also straight back");
        MeshWalk m = deadEnd();
        expect.due("the place is to the right", m.side(2, 3, m.corner(m.locate(0, 5), 0)), 1);
        expect.due("point 2 is to the left", m.side(2, 3, m.corner(m.locate(0, 10), 0)), -1);
        expect.due("down and up again", m.way(0, 5, 0, 10) + " " + Look.turns(m), "1 3");
        expect.due("and back", m.way(0, 10, 0, 5) + " " + Look.turns(m), "1 3");
        expect.due("from next to the end", m.way(0, 1, 0, 10) + " " + Look.turns(m), "1 3");
        expect.due("from the end itself: no turn at its very beginning", m.way(0, 0, 0, 10), 0);
        expect.due("to the end itself: no turn at its very end", m.way(0, 10, 0, 0), 0);
        expect.due("to the end from the other side", m.way(0, 5, 0, 0), 0);
        expect.due("past the end", m.way(0, 5, 0, -2), 0);
        expect.due("down, and not quite up again", m.way(0, 5, -1, 9) + " " + Look.turns(m), "1 3");
        m.unlink(2, 3);
        expect.due("without the wall", m.way(0, 5, 0, 10) + " " + Look.turns(m), "0 ");
    }

    private static void straightBackPastAPoint() {
        expect.words("also straight back, past a point between");
        MeshWalk m = Look.of(-10, 10, 10, 10, 0, 10, 0, 0, -8, 7, -4, -10, 10, -10, 0, 4);
        m.link(2, 7);
        m.link(7, 3);
        m.link(0, 4);
        expect.due("the place is to the right", m.side(2, 3, m.corner(m.locate(0, 7), 0)), 1);
        expect.due("point 2 is to the left", m.side(2, 3, m.corner(m.locate(0, 10), 0)), -1);
        expect.due("down and up again", m.way(0, 7, 0, 10) + " " + Look.turns(m), "1 3");
        expect.due("and back", m.way(0, 10, 0, 7) + " " + Look.turns(m), "1 3");
    }

    /** From point 3 round the end 2 of its wall back to point 3, and from there on round the corner. */
    private static MeshWalk hook() {
        MeshWalk m = Look.of(-20, -20, -20, 0, 0, -10, 0, 0, 20, -20, 20, 20, -20, 20);
        m.link(1, 3);
        m.link(2, 3);
        return m;
    }

    private static void backToTheBeginning() {
        expect.words("none at its very beginning or end: but where it comes by again");
        MeshWalk m = hook();
        expect.due("point 3 lies below", Look.triangle(m, m.locate(0, 0)), "1 2 3");
        expect.due("from 3 by 2 and 3", m.way(0, 0, -10, 5) + " " + Look.turns(m), "2 2 3");
        expect.due("and back", m.way(-10, 5, 0, 0) + " " + Look.turns(m), "2 3 2");
        expect.due("only past 3, straight on", m.way(0, 0, 0, 5) + " " + Look.turns(m), "1 2");
        expect.due("and back", m.way(0, 5, 0, 0) + " " + Look.turns(m), "1 2");
        expect.due("from a step beside 3", m.way(-1, -1, -10, 5) + " " + Look.turns(m), "2 2 3");
        expect.due("from a place on the wall", m.way(0, -5, -10, 5) + " " + Look.turns(m), "2 2 3");
    }

    private static void fromAndToPoints() {
        expect.words("none at its very beginning or end");
        MeshWalk m = Look.of(0, 0, 90, 0, 90, 40, 0, 40, 30, 0, 30, 30, 60, 40, 60, 10);
        m.link(4, 5);
        m.link(6, 7);
        expect.due("from hull point to hull point", m.way(0, 0, 90, 40) + " " + Look.turns(m), "2 5 7");
        expect.due("from the first turn", m.way(30, 30, 90, 40) + " " + Look.turns(m), "1 7");
        expect.due("to the last turn", m.way(0, 0, 60, 10) + " " + Look.turns(m), "1 5");
        expect.due("from turn to turn", m.way(30, 30, 60, 10) + " " + Look.turns(m), "0 ");
        expect.due("and back", m.way(60, 10, 30, 30) + " " + Look.turns(m), "0 ");
        expect.due("from the foot of a wall up to its end", m.way(30, 0, 30, 30) + " " + Look.turns(m), "0 ");
        expect.due("from its end down to its foot", m.way(30, 30, 30, 0) + " " + Look.turns(m), "0 ");
        expect.due("from a point to itself", m.way(30, 30, 30, 30) + " " + Look.turns(m), "0 ");
    }

    private static void manyTurns() {
        expect.words("how many TURNS");
        MeshWalk m = Look.of(0, 0, 190, 0, 190, 40, 0, 40);
        StringBuilder ends = new StringBuilder();
        StringBuilder back = new StringBuilder();
        for (int i = 1; i <= 18; i++) {
            boolean up = i % 2 == 1;
            int foot = m.add(10 * i, up ? 0 : 40);
            int end = m.add(10 * i, up ? 30 : 10);
            expect.due("wall", m.link(foot, end), true);
            ends.append(i == 1 ? "" : " ").append(end);
            back.insert(0, end + (i == 1 ? "" : " "));
        }
        expect.due("40 points", m.count(0), 40);
        expect.due("round 18 walls", m.way(1, 1, 189, 39) + " " + Look.turns(m), "18 " + ends);
        expect.due("and back", m.way(189, 39, 1, 1) + " " + Look.turns(m), "18 " + back);
        expect.due("the last turn", m.turn(17) + " " + m.turn(18), "5 -1");
    }

    // ---- the last way

    private static void beforeTheFirstWay() {
        expect.words("No points, no way");
        int[] any = {0, 1, -1, 74, 75, Integer.MIN_VALUE, Integer.MAX_VALUE};
        MeshWalk m = new MeshWalk();
        MeshWalk square = square();
        square.way(11, 11, 5, 5);
        square.locate(5, 5);
        expect.illegal("a refused way is none", () -> square.way(5, 5, 5, FAR + 1));
        for (int i : any) {
            expect.due("turn " + i, m.turn(i), NONE);
            expect.due("sleeve " + i, m.sleeve(i), NONE);
            expect.due("turn " + i + " with a mesh", square.turn(i), NONE);
            expect.due("sleeve " + i + " with a mesh", square.sleeve(i), NONE);
        }
    }

    private static void noSuchTurnNorTriangle() {
        expect.words("from 0 on; NONE if there is none such");
        MeshWalk m = World.WALKED.make();
        expect.due("the only turn", m.turn(0), 4);
        expect.due("the first triangle", m.sleeve(0), 0);
        expect.due("the last triangle", m.sleeve(3), 1);
        for (int i : new int[] {-1, -2, 1, 2, 39, 40, 77, Integer.MIN_VALUE, Integer.MAX_VALUE}) {
            World.WALKED.unchangedBy(expect, "turn " + i, NONE, w -> w.turn(i));
        }
        for (int i : new int[] {-1, -2, 4, 5, 74, 75, 76, Integer.MIN_VALUE, Integer.MAX_VALUE}) {
            World.WALKED.unchangedBy(expect, "sleeve " + i, NONE, w -> w.sleeve(i));
        }
    }

    private static void stays(String what, World.Deed deed) {
        MeshWalk m = World.WALKED.make();
        Expect.answer(() -> deed.on(m));
        expect.due("after " + what, Look.lastWay(m), "0 2 3 1 | 4");
    }

    private static void lastWayStays() {
        expect.words("(The last way stays.)");
        stays("clear", m -> m.clear());
        stays("clear twice", m -> m.clear() + m.clear());
        stays("add inside", m -> m.add(5, 1));
        stays("add outside", m -> m.add(-20, 3));
        stays("an add refused", m -> m.add(5, 5));
        stays("an add on a link", m -> m.add(1, 1));
        stays("link", m -> m.link(4, 2));
        stays("a link refused", m -> m.link(0, 2));
        stays("unlink", m -> m.unlink(4, 0));
        stays("unlink of none", m -> m.unlink(4, 2));
        stays("count", m -> m.count(2));
        stays("edge", m -> m.edge(0, 4));
        stays("side", m -> m.side(0, 1, 2));
        stays("circle", m -> m.circle(0, 1, 2, 3));
        stays("locate", m -> m.locate(5, 9));
        stays("locate outside", m -> m.locate(50, 9));
        stays("corner and across", m -> m.corner(0, 0) + m.across(0, 0));
        stays("turn and sleeve", m -> m.turn(3) + m.sleeve(7));
        stays("clear and points anew", m -> m.clear() + m.add(3, 3) + m.add(4, 4) + m.add(4, 3) + m.add(9, 9));
        MeshWalk cleared = World.CLEARED.make();
        expect.due("its turn is no point any more", cleared.turn(0), 4);
        expect.illegal("as side tells", () -> cleared.side(4, 4, 4));
    }

    private static void refusedWayStays() {
        expect.words("NONE (and the last way stays)");
        stays("a way from outside", m -> m.way(-1, 1, 1, 5));
        stays("a way to outside", m -> m.way(5, 1, 1, 11));
        stays("a way out of a cell", m -> m.link(1, 4) ? m.way(5, 1, 9, 5) : 0);
        stays("a way into a cell", m -> m.link(1, 4) ? m.way(9, 5, 5, 1) : 0);
        stays("a way without a mesh", m -> m.clear() + m.way(5, 1, 1, 5));
        stays("a way on one line", m -> m.clear() + m.add(0, 0) + m.add(5, 5) + m.way(0, 0, 5, 5));
        for (int far : Look.BEYOND) {
            stays("a way from " + far, m -> m.way(far, 1, 5, 8));
            stays("a way down from " + far, m -> m.way(5, far, 5, 8));
            stays("a way to " + far, m -> m.way(5, 1, far, 8));
            stays("a way up to " + far, m -> m.way(5, 1, 5, far));
        }
        MeshWalk twice = World.WALKED.make();
        twice.way(50, 50, 5, 1);
        twice.way(5, 1, 50, 50);
        expect.due("two refused ones", Look.lastWay(twice), "0 2 3 1 | 4");
    }

    private static void asItWasNumberedThen() {
        expect.words("as it was numbered then");
        MeshWalk m = square();
        way("a way", m, at(9, 5, 1, 6), "1: 2 0 1 | 4");
        m.add(5, 1);
        expect.due("new numbers", Look.triangles(m), "0 1 5, 0 4 3, 0 5 4, 1 2 4, 1 4 5, 2 3 4");
        expect.due("the way has the old ones", Look.lastWay(m), "2 0 1 | 4");
        way("a new way has the new ones", m, at(9, 5, 1, 6), "0: 3 5 1 | ");
        m.link(2, 4);
        expect.due("a link", Look.lastWay(m), "3 5 1 | ");
        way("round by the new triangles", m, at(9, 5, 1, 6), "1: 3 4 2 1 | 4");
        m.unlink(4, 2);
        expect.due("unlinked", Look.lastWay(m), "3 4 2 1 | 4");
        MeshWalk flat = Look.of(0, 0, 10, 1, 20, 0, 10, -1);
        way("through the short diagonal", flat, at(1, 0, 19, 0), "0: 0 1 | ");
        flat.link(0, 2);
        expect.due("other triangles of the same numbers", Look.triangles(flat), "0 2 1, 0 3 2");
        expect.due("the row stays", Look.row(flat), "0 1");
        way("a place on the new link", flat, at(1, 0, 19, 0), "0: 0 | ");
        flat.unlink(0, 2);
        expect.due("the new row stays", Look.row(flat), "0");
    }

    private static void newWayTakesItsPlace() {
        expect.words("of the last way");
        MeshWalk m = World.WALKED.make();
        way("a shorter one", m, at(5, 1, 5, 2), "0: 0 | ");
        expect.due("no turn of before", m.turn(0), NONE);
        expect.due("no triangle of before", m.sleeve(1), NONE);
        way("the long one again", m, at(5, 1, 1, 5), "1: 0 2 3 1 | 4");
        way("one without a turn", m, at(9, 5, 1, 6), "0: 2 3 1 | ");
        m.clear();
        m.add(0, 0);
        m.add(9, 0);
        m.add(0, 9);
        way("one after clear", m, at(1, 1, 2, 2), "0: 0 | ");
        MeshWalk one = World.WALKED.make();
        MeshWalk other = World.WALKED.make();
        other.way(5, 1, 5, 2);
        expect.due("each object has its own", Look.lastWay(one) + ", " + Look.lastWay(other), "0 2 3 1 | 4, 0 | ");
    }
}
