/** Points and links that are refused, and that a refused call changes nothing. */
public final class RefusedTest {
    private static final int NONE = Look.NONE;
    private static final int FAR = Look.FAR;
    private static final Expect expect = new Expect();

    public static void main(String[] args) {
        pointAtAPlace();
        pointOnALink();
        pointBesideALink();
        pointOnAWideLink();
        pointOnALinkWithoutMesh();
        pointWhereALinkWas();
        linkOverAPoint();
        linkOverALink();
        linkThatIsThere();
        linksWithSharedEnds();
        linkCrossingByAHair();
        linkWithoutMesh();
        linkAfterUnlink();
        unlinkWhatIsNotThere();
        unlinkTheOtherWayRound();
        throwsAndChangesNothing();
        expect.finish();
    }

    private static void unchanged(String what, World.Deed maker, Object due, World.Deed deed) {
        MeshWalk m = (MeshWalk) maker.on(new MeshWalk());
        MeshWalk twin = (MeshWalk) maker.on(new MeshWalk());
        expect.due(what, Expect.answer(() -> deed.on(m)), due);
        expect.due("after " + what, Look.whole(m), Look.whole(twin));
    }

    // ---- add

    private static void pointAtAPlace() {
        expect.words("NONE (and there is none more) if there is one at its place");
        World.ONE_POINT.unchangedBy(expect, "add 0 0", NONE, m -> m.add(0, 0));
        for (int[] p : new int[][] {{0, 0}, {10, 4}}) {
            World.TWO_LINKED.unchangedBy(expect, "add " + p[0], NONE, m -> m.add(p[0], p[1]));
        }
        for (int p : new int[] {0, -8, 20, 6}) {
            World.ON_ONE_LINE.unchangedBy(expect, "add " + p, NONE, m -> m.add(p, p));
        }
        for (int[] p : new int[][] {{0, 0}, {10, 0}, {10, 10}, {0, 10}, {5, 5}}) {
            World.WALKED.unchangedBy(expect, "add " + p[0] + " " + p[1], NONE, m -> m.add(p[0], p[1]));
        }
        MeshWalk m = Look.of(3, 4, 4, 3, -3, 4);
        expect.due("x and y the other way round is another place", m.add(-4, 3), 3);
        expect.due("with one sign changed too", m.add(3, -4), 4);
        MeshWalk cleared = World.CLEARED.make();
        expect.due("where there was one before clear", cleared.add(5, 5), 0);
        expect.due("where there was a link before clear", cleared.add(2, 2), 1);
    }

    /** Links in six directions, the hull among them, each with room for points on it. */
    private static MeshWalk star() {
        MeshWalk m = Look.of(0, 0, 60, 0, 60, 60, 0, 60, 30, 30, 30, 6, 6, 18, 42, 54);
        m.link(4, 5);
        m.link(6, 4);
        m.link(4, 7);
        m.link(0, 1);
        m.link(1, 2);
        m.link(2, 4);
        m.way(29, 10, 33, 10);
        return m;
    }

    private static void pointOnALink() {
        expect.words("or it would lie on a LINK");
        int[][] on = {{30, 29}, {30, 18}, {30, 7}, {28, 29}, {18, 24}, {8, 19}, {31, 32}, {36, 42}, {41, 52},
            {1, 0}, {30, 0}, {59, 0}, {60, 1}, {60, 30}, {60, 59}, {31, 31}, {45, 45}, {59, 59}};
        for (int[] p : on) {
            unchanged("add " + p[0] + " " + p[1], m -> star(), NONE, m -> m.add(p[0], p[1]));
        }
        World.WALKED.unchangedBy(expect, "on 4-0", NONE, m -> m.add(1, 1));
        World.WALKED.unchangedBy(expect, "on 4-0", NONE, m -> m.add(4, 4));
        World.WALKED.unchangedBy(expect, "on 1-2", NONE, m -> m.add(10, 1));
        World.WALKED.unchangedBy(expect, "on 1-2", NONE, m -> m.add(10, 9));
    }

    private static void pointBesideALink() {
        expect.words("or it would lie on a LINK: not so beside it, beyond its ends, on an edge");
        int[][] off = {{30, 5}, {29, 18}, {31, 18}, {4, 17}, {18, 25}, {18, 23}, {36, 43}, {36, 41}, {48, 66},
            {-1, 0}, {61, 0}, {30, 1}, {30, -1}, {60, -1}, {60, 61}, {61, 30}, {59, 30}, {45, 44}, {44, 45},
            {61, 61}, {0, 30}, {30, 60}, {29, 29}};
        for (int[] p : off) {
            MeshWalk m = star();
            expect.due("add " + p[0] + " " + p[1], m.add(p[0], p[1]), 8);
            expect.due("one more", m.count(0), 9);
            expect.due("all links are edges", m.edge(4, 5) + m.edge(6, 4) + m.edge(4, 7) + m.edge(0, 1)
                + m.edge(1, 2) + m.edge(2, 4), 12);
        }
    }

    private static MeshWalk wide(int bx, int by) {
        MeshWalk m = Look.of(-FAR, -FAR, bx, by, FAR, -FAR, -FAR, FAR);
        m.link(0, 1);
        return m;
    }

    private static void pointOnAWideLink() {
        expect.words("or it would lie on a LINK, from bound to bound");
        for (int p : new int[] {0, 1, -1, FAR - 1, 1 - FAR}) {
            unchanged("on the diagonal " + p, m -> wide(FAR, FAR), NONE, m -> m.add(p, p));
            expect.due("one step right of it " + p, wide(FAR, FAR).add(p + 1, p), 4);
            expect.due("one step above it " + p, wide(FAR, FAR).add(p, p + 1), 4);
        }
        expect.due("no place is on this one", wide(FAR, FAR - 1).add(0, 0), 4);
        expect.due("not even near its end", wide(FAR, FAR - 1).add(FAR - 1, FAR - 2), 4);
        unchanged("the middle of a hull link", m -> wide(FAR, -FAR + 2), NONE, m -> m.add(0, -FAR + 1));
        expect.due("below the middle", wide(FAR, -FAR + 2).add(0, -FAR), 4);
    }

    private static void pointOnALinkWithoutMesh() {
        expect.words("or it would lie on a LINK, also if there is no MESH");
        World.TWO_LINKED.unchangedBy(expect, "on it", NONE, m -> m.add(5, 2));
        World.ON_ONE_LINE.unchangedBy(expect, "on the first", NONE, m -> m.add(-4, -4));
        World.ON_ONE_LINE.unchangedBy(expect, "on the second", NONE, m -> m.add(13, 13));
        MeshWalk m = World.ON_ONE_LINE.make();
        expect.due("between the two", m.add(3, 3), 4);
        expect.due("beyond one", m.add(-9, -9), 5);
        expect.due("beyond the other", m.add(21, 21), 6);
        expect.due("all in", Look.counts(m), "7 2 0 0 0");
        MeshWalk upright = Look.of(7, 5, 7, -5);
        upright.link(1, 0);
        expect.due("on an upright one", upright.add(7, 0), NONE);
        expect.due("above it", upright.add(7, 6), 2);
        expect.due("below it", upright.add(7, -6), 3);
        MeshWalk level = Look.of(5, 7, -5, 7);
        level.link(0, 1);
        expect.due("on a level one", level.add(4, 7), NONE);
        expect.due("to its left", level.add(-6, 7), 2);
        expect.due("to its right", level.add(6, 7), 3);
    }

    private static void pointWhereALinkWas() {
        expect.words("or it would lie on a LINK: one that is there now");
        MeshWalk m = World.WALKED.make();
        expect.due("on 4-0", m.add(2, 2), NONE);
        m.unlink(0, 4);
        expect.due("where 4-0 was", m.add(2, 2), 5);
        expect.due("a corner now", Look.triangles(m), "0 1 5, 0 5 3, 1 2 4, 1 4 5, 2 3 4, 3 5 4");
        expect.due("and in the way of the link", m.link(0, 4), false);
    }

    // ---- link

    private static void linkOverAPoint() {
        expect.words("no other point lies on one");
        for (int[] pair : new int[][] {{0, 2}, {2, 0}, {1, 3}, {3, 1}}) {
            World.WALKED.unchangedBy(expect, "link " + pair[0] + " " + pair[1], false, m -> m.link(pair[0], pair[1]));
        }
        for (int[] pair : new int[][] {{0, 2}, {1, 2}, {2, 1}, {1, 3}, {3, 1}}) {
            World.ON_ONE_LINE.unchangedBy(expect, "link " + pair[0] + " " + pair[1], false,
                m -> m.link(pair[0], pair[1]));
        }
        World.FULL_LINE.unchangedBy(expect, "from end to end", false, m -> m.link(0, 39));
        World.FULL_LINE.unchangedBy(expect, "over one", false, m -> m.link(20, 18));
        World.Deed wide = m -> Look.of(-FAR, -FAR, FAR, FAR, 0, 0, 0, 1, FAR - 1, FAR - 2);
        unchanged("from bound to bound", wide, false, m -> m.link(1, 0));
        expect.due("up to the point", ((MeshWalk) wide.on(null)).link(0, 2), true);
        expect.due("hardly beside a point", ((MeshWalk) wide.on(null)).link(0, 4), true);
    }

    /** A link 0-1 from left to right, four points about it. */
    private static MeshWalk beam() {
        MeshWalk m = Look.of(0, 0, 40, 0, 10, 9, 30, 9, 10, -9, 30, -9);
        m.link(0, 1);
        return m;
    }

    private static void linkOverALink() {
        expect.words("no two cross");
        for (int above = 2; above < 4; above++) {
            for (int below = 4; below < 6; below++) {
                int a = above;
                int b = below;
                unchanged("link " + a + " " + b, m -> beam(), false, m -> m.link(a, b));
                unchanged("link " + b + " " + a, m -> beam(), false, m -> m.link(b, a));
            }
        }
        MeshWalk m = beam();
        expect.due("above it", m.link(2, 3), true);
        expect.due("below it", m.link(5, 4), true);
        expect.due("two more", Look.counts(m), "6 3 4 9 6");
        World.FULL.unchangedBy(expect, "over 10-39", false, w -> w.link(9, 20));
        World.FULL.unchangedBy(expect, "over 0-2", false, w -> w.link(39, 1));
        World.FULL.unchangedBy(expect, "over both", false, w -> w.link(1, 11));
    }

    private static void linkThatIsThere() {
        expect.words("Whether there is a LINK between two points now");
        World.TWO_LINKED.unchangedBy(expect, "link 0 1", true, m -> m.link(0, 1));
        World.TWO_LINKED.unchangedBy(expect, "link 1 0", true, m -> m.link(1, 0));
        World.WALKED.unchangedBy(expect, "link 4 0", true, m -> m.link(4, 0));
        World.WALKED.unchangedBy(expect, "link 0 4", true, m -> m.link(0, 4));
        World.WALKED.unchangedBy(expect, "link 2 1", true, m -> m.link(2, 1));
        World.FULL.unchangedBy(expect, "link 39 10", true, m -> m.link(39, 10));
        World.FULL_LINE.unchangedBy(expect, "link 39 38", true, m -> m.link(39, 38));
    }

    private static void linksWithSharedEnds() {
        expect.words("ends may be shared");
        MeshWalk m = beam();
        for (int a = 0; a < 2; a++) {
            for (int b = 2; b < 6; b++) {
                expect.due("link " + a + " " + b, m.link(b, a), a == 0 || b == 3 || b == 5);
            }
        }
        expect.due("links", Look.counts(m), "6 7 4 9 6");
        MeshWalk line = World.ON_ONE_LINE.make();
        expect.due("straight on from both ends", line.link(0, 3), true);
        expect.due("three in a row", Look.counts(line), "4 3 0 0 0");
        MeshWalk all = Look.of(0, 0, 8, 0, 0, 8);
        expect.due("all three sides", all.link(0, 1) && all.link(1, 2) && all.link(2, 0), true);
        expect.due("all three are links", Look.counts(all), "3 3 1 3 3");
    }

    private static void linkCrossingByAHair() {
        expect.words("no two cross, at the bounds of the coordinates");
        MeshWalk m = Look.of(-FAR, -FAR, FAR, FAR - 1, FAR - 1, FAR, FAR, -FAR, FAR, FAR, FAR - 1, FAR - 2);
        expect.due("almost the diagonal", m.link(0, 1), true);
        expect.due("over its far end", m.link(2, 3), false);
        expect.due("just past its far end", m.link(4, 3), false);
        expect.due("below its end", m.link(5, 3), true);
        expect.due("over it, next to its end", m.link(5, 2), false);
        expect.due("past its end", m.link(2, 4), true);
        expect.due("which ones there are", m.edge(0, 1) + m.edge(5, 3) + m.edge(2, 4), 6);
        expect.due("no others", m.count(1), 3);
    }

    private static void linkWithoutMesh() {
        expect.words("LINKS are segments between two points, also if there is no MESH");
        MeshWalk m = Look.of(5, 5);
        expect.illegal("one point alone", () -> m.link(0, 1));
        m.add(9, 9);
        expect.due("two", m.link(0, 1), true);
        expect.due("counted", Look.counts(m), "2 1 0 0 0");
        m.add(9, 0);
        expect.due("an edge as soon as there is a mesh", m.edge(0, 1), 2);
        expect.due("the others are none", m.edge(0, 2) + m.edge(1, 2), 2);
    }

    private static void linkAfterUnlink() {
        expect.words("not if it crosses one: one that is there now");
        MeshWalk m = beam();
        expect.due("crossing", m.link(2, 5), false);
        expect.due("unlinked", m.unlink(0, 1), true);
        expect.due("not crossing any more", m.link(2, 5), true);
        expect.due("now the other one crosses", m.link(0, 1), false);
        expect.due("the edge", m.edge(2, 5) + " " + m.edge(0, 1), "2 0");
        MeshWalk cleared = World.WALKED.make();
        cleared.clear();
        cleared.add(10, 0);
        cleared.add(0, 10);
        expect.due("over a link of before clear", cleared.link(0, 1), true);
    }

    // ---- unlink

    private static void unlinkWhatIsNotThere() {
        expect.words("The LINK between two points is gone: whether there was one");
        World.ON_ONE_LINE.unchangedBy(expect, "no link", false, m -> m.unlink(0, 3));
        World.ON_ONE_LINE.unchangedBy(expect, "over points", false, m -> m.unlink(1, 2));
        World.ONE_TRIANGLE.unchangedBy(expect, "an edge that is no link", false, m -> m.unlink(0, 1));
        World.WALKED.unchangedBy(expect, "an edge that is no link", false, m -> m.unlink(4, 1));
        World.WALKED.unchangedBy(expect, "no edge", false, m -> m.unlink(0, 2));
        World.WALKED.unchangedBy(expect, "no edge the other way round", false, m -> m.unlink(3, 1));
        World.FULL.unchangedBy(expect, "the least and the greatest", false, m -> m.unlink(0, 39));
        World.WALKED.unchangedBy(expect, "gone and there again", true, m -> m.unlink(4, 0) && m.link(4, 0));
    }

    private static void unlinkTheOtherWayRound() {
        expect.words("unlink, with its ends the other way round");
        for (int round = 0; round < 2; round++) {
            MeshWalk m = beam();
            expect.due("there", m.unlink(round, 1 - round), true);
            expect.due("not any more", m.unlink(0, 1) || m.unlink(1, 0), false);
            expect.due("no link", Look.counts(m), "6 0 4 9 6");
            expect.due("and no edge", m.edge(0, 1), 0);
            MeshWalk line = World.TWO_LINKED.make();
            expect.due("without a mesh", line.unlink(1 - round, round), true);
            expect.due("not any more", line.unlink(round, 1 - round), false);
            expect.due("room for a point", line.add(5, 2), 2);
        }
    }

    // ---- every call that throws

    private static void throwsAndChangesNothing() {
        expect.words("A call that throws changes nothing");
        Class<?> illegal = IllegalArgumentException.class;
        Class<?> out = IndexOutOfBoundsException.class;
        for (World world : World.values()) {
            int size = world.points();
            world.unchangedBy(expect, "add", illegal, m -> m.add(0, FAR + 1));
            world.unchangedBy(expect, "link", illegal, m -> m.link(0, size));
            world.unchangedBy(expect, "unlink", illegal, m -> m.unlink(size, 0));
            world.unchangedBy(expect, "corner", out, m -> m.corner(size * 2, 0));
            world.unchangedBy(expect, "across", out, m -> m.across(0, 3));
            world.unchangedBy(expect, "edge", illegal, m -> m.edge(size, size));
            world.unchangedBy(expect, "side", illegal, m -> m.side(0, 0, size));
            world.unchangedBy(expect, "circle", illegal, m -> m.circle(0, 0, 0, 0));
            world.unchangedBy(expect, "locate", illegal, m -> m.locate(FAR + 1, 0));
            world.unchangedBy(expect, "way", illegal, m -> m.way(0, 0, 0, -FAR - 1));
        }
        MeshWalk m = World.WALKED.make();
        for (World.Deed deed : new World.Deed[] {w -> w.add(FAR + 1, 0), w -> w.link(3, 3), w -> w.unlink(0, 5),
            w -> w.way(0, FAR + 1, 0, 0), w -> w.corner(4, 0)}) {
            Expect.answer(() -> deed.on(m));
        }
        expect.due("many one after the other", Look.whole(m), Look.whole(World.WALKED.make()));
    }
}
