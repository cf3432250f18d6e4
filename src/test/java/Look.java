/** Objects made of points, and what they answer, told as text. */
final class Look {
    static final int NONE = MeshWalk.NONE;
    static final int FAR = 536870911;
    /** Just beyond the bounds, and as far as an int goes. */
    static final int[] BEYOND = {FAR + 1, -FAR - 1, Integer.MAX_VALUE, Integer.MIN_VALUE};

    private Look() {
    }

    /** A new object with the points x, y, x, y and so on. */
    static MeshWalk of(int... xy) {
        MeshWalk m = new MeshWalk();
        for (int i = 0; i < xy.length; i += 2) {
            int number = m.add(xy[i], xy[i + 1]);
            if (number != i / 2) {
                throw new AssertionError("point " + i / 2 + " was numbered " + number);
            }
        }
        return m;
    }

    static String triangle(MeshWalk m, int i) {
        return m.corner(i, 0) + " " + m.corner(i, 1) + " " + m.corner(i, 2);
    }

    static String triangles(MeshWalk m) {
        StringBuilder text = new StringBuilder();
        int size = m.count(2);
        for (int i = 0; i < size; i++) {
            text.append(i == 0 ? "" : ", ").append(triangle(m, i));
        }
        return text.toString();
    }

    static String turns(MeshWalk m) {
        StringBuilder text = new StringBuilder();
        for (int i = 0; m.turn(i) != NONE; i++) {
            text.append(i == 0 ? "" : " ").append(m.turn(i));
        }
        return text.toString();
    }

    static String row(MeshWalk m) {
        StringBuilder text = new StringBuilder();
        for (int i = 0; m.sleeve(i) != NONE; i++) {
            text.append(i == 0 ? "" : " ").append(m.sleeve(i));
        }
        return text.toString();
    }

    static String counts(MeshWalk m) {
        return m.count(0) + " " + m.count(1) + " " + m.count(2) + " " + m.count(3) + " " + m.count(4);
    }

    /** The last way: its row, then its turns. */
    static String lastWay(MeshWalk m) {
        return row(m) + " | " + turns(m);
    }

    /**
     * All that an object answers, as far as its 512 calls go: what changes nothing
     * comes first, then a new way, a new point, all links undone, and clear.
     */
    static String whole(MeshWalk m) {
        StringBuilder text = new StringBuilder("counts " + counts(m) + "\nlast way " + lastWay(m));
        text.append("\ntriangles ").append(triangles(m));
        int points = m.count(0);
        boolean few = points <= 9;
        if (few) {
            text.append("\nacross").append(allAcross(m)).append("\npairs").append(allPairs(m, points));
        }
        text.append("\nplaces ").append(m.locate(5, 1)).append(' ').append(m.locate(0, 0)).append(' ')
            .append(m.locate(3, 7)).append(' ').append(m.locate(-FAR, FAR));
        text.append("\nway ").append(m.way(5, 1, 1, 5)).append(' ').append(lastWay(m));
        text.append("\nnew point ").append(Expect.answer(() -> m.add(-77, 13))).append(' ').append(m.count(2));
        if (few) {
            text.append("\nunlinked").append(allUnlinked(m, points)).append(' ').append(triangles(m));
        }
        return text.append("\nclear ").append(m.clear()).append(' ').append(counts(m)).toString();
    }

    private static String allAcross(MeshWalk m) {
        StringBuilder text = new StringBuilder();
        int size = m.count(2);
        for (int i = 0; i < size; i++) {
            text.append(' ').append(m.across(i, 0)).append(' ').append(m.across(i, 1)).append(' ')
                .append(m.across(i, 2));
        }
        return text.toString();
    }

    private static String allPairs(MeshWalk m, int points) {
        StringBuilder text = new StringBuilder();
        for (int a = 0; a < points; a++) {
            for (int b = a + 1; b < points; b++) {
                text.append(' ').append(m.edge(a, b)).append('/').append(m.side(a, b, 0));
            }
        }
        return text.toString();
    }

    private static String allUnlinked(MeshWalk m, int points) {
        StringBuilder text = new StringBuilder();
        for (int a = 0; a < points; a++) {
            for (int b = a + 1; b < points; b++) {
                if (m.unlink(a, b)) {
                    text.append(' ').append(a).append('-').append(b);
                }
            }
        }
        return text.toString();
    }
}
