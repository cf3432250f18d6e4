/**
 * Runs of random calls, each answer held against the model's. With an argument,
 * that many runs of each kind instead of the usual few, and a second one: from
 * which seed on.
 */
public final class RandomRunsTest {
    private static final int USUAL_RUNS = 12;
    private static final int KINDS = 10;

    private long seed;
    private MeshWalk walk;
    private Model model;
    private int kind;
    private final StringBuilder told = new StringBuilder();
    private static long ways;
    private static long turns;

    public static void main(String[] args) {
        int runs = args.length > 0 ? Integer.parseInt(args[0]) : USUAL_RUNS;
        int from = args.length > 1 ? Integer.parseInt(args[1]) : 0;
        for (int run = from; run < from + runs; run++) {
            for (int kind = 0; kind < KINDS; kind++) {
                new RandomRunsTest().run(kind, run);
            }
        }
        System.out.println(runs * KINDS + " random runs as due, " + ways + " ways, " + turns + " turns");
    }

    private void run(int ofKind, int number) {
        kind = ofKind;
        seed = 1000003L * number + 7919L * ofKind + 1;
        walk = new MeshWalk();
        model = new Model();
        if (kind >= 8) {
            maze();
            return;
        }
        int length = 60 + below(190);
        int most = 3 + below(38);
        for (int i = 0; i < length; i++) {
            if (below(150) == 0) {
                same(9, 0, 0, 0, 0);
            }
            step(most);
        }
        compareAll();
    }

    /**
     * Walls that hang together in trees, the box around them counted as one wall:
     * so that there is a way between any two places, mostly a winding one.
     */
    private void maze() {
        long far = kind == 8 ? 9 : 1000;
        for (int i = 0; i < 4; i++) {
            same(0, i < 2 ? -far : far, i % 2 == 0 ? -far : far, 0, 0);
        }
        int most = 14 + below(27);
        for (int i = 0; i < 200 && model.size() < most; i++) {
            long[] p = place();
            same(0, p[0], p[1], 0, 0);
        }
        int[] wall = new int[40];
        for (int i = 0; i < 40; i++) {
            wall[i] = i < 4 ? 0 : i;
        }
        for (int i = 0; i < 600; i++) {
            joinWalls(wall, below(model.size()), below(model.size()));
        }
        compareAll();
        for (int i = 0; i < 40; i++) {
            long[] p = target();
            long[] q = target();
            same(7, p[0], p[1], q[0], q[1]);
            compareWay();
        }
    }

    private void joinWalls(int[] wall, int a, int b) {
        long x = model.point(a)[0] - model.point(b)[0];
        long y = model.point(a)[1] - model.point(b)[1];
        long near = kind == 8 ? 8 : 600 * 600;
        if (wall[a] == wall[b] || x * x + y * y > near) {
            return;
        }
        same(1, a, b, 0, 0);
        if (model.edge(a, b) == 2) {
            int old = wall[b];
            for (int i = 0; i < 40; i++) {
                wall[i] = wall[i] == old ? wall[a] : wall[i];
            }
        }
    }

    private void step(int most) {
        int what = below(100);
        int n = model.size();
        if (n < 3 || what < 35 && n < most) {
            long[] p = place();
            same(0, p[0], p[1], 0, 0);
        } else if (what < 55) {
            same(1, someone(n), someone(n), 0, 0);
        } else if (what < 62) {
            same(2, someone(n), someone(n), 0, 0);
        } else if (what < 66) {
            same(3, someone(n), someone(n), 0, 0);
        } else if (what < 70) {
            same(4, someone(n), someone(n), someone(n), 0);
        } else if (what < 75) {
            same(5, someone(n), someone(n), someone(n), someone(n));
        } else if (what < 80) {
            long[] p = target();
            same(6, p[0], p[1], 0, 0);
        } else if (what < 97) {
            long[] p = target();
            long[] q = target();
            same(7, p[0], p[1], q[0], q[1]);
            compareWay();
        } else {
            compareMesh();
        }
    }

    private int someone(int n) {
        return below(60) == 0 ? below(3) * (n + 1) - 1 : below(n);
    }

    // ---- where

    private int below(int bound) {
        seed = seed * 6364136223846793005L + 1442695040888963407L;
        return (int) Long.remainderUnsigned(seed >>> 29, bound);
    }

    private long between(long low, long high) {
        return low + ((long) below(1 << 15) << 15 | below(1 << 15)) % (high - low + 1);
    }

    private long[] place() {
        switch (kind) {
            case 0:
                return new long[] {below(6), below(6)};
            case 1:
                return new long[] {below(13), below(9)};
            case 2:
                return onCircle();
            case 3:
                return new long[] {below(4) == 0 ? below(3) - 1 : 0, below(30)};
            case 4:
                return new long[] {nearBound(), nearBound()};
            case 5:
                return new long[] {between(-Model.BOUND, Model.BOUND), between(-Model.BOUND, Model.BOUND)};
            case 6:
                return comb();
            case 8:
                return new long[] {below(13) - 6, below(11) - 5};
            case 9:
                return new long[] {between(-900, 900), between(-900, 900)};
            default:
                return new long[] {between(-100, 100), between(-60, 60)};
        }
    }

    private long[] onCircle() {
        int[] legs = {0, 65, 16, 63, 25, 60, 33, 56, 39, 52, 63, 16, 65, 0};
        int i = below(legs.length / 2);
        long x = below(2) == 0 ? legs[2 * i] : -legs[2 * i];
        long y = below(2) == 0 ? legs[2 * i + 1] : -legs[2 * i + 1];
        boolean off = below(6) == 0;
        return new long[] {off ? x / 5 : x, off ? y / 5 : y};
    }

    private long nearBound() {
        long[] middle = {-Model.BOUND, 0, Model.BOUND};
        long number = middle[below(3)] + below(5) - 2;
        return below(12) == 0 ? number : Math.max(-Model.BOUND, Math.min(Model.BOUND, number));
    }

    // Teeth from both sides, so that links along x make the ways wind.
    private long[] comb() {
        int tooth = below(9);
        return new long[] {10 * tooth, tooth % 2 == 0 ? below(2) * 30 - 1 : below(2) * 30 + 1};
    }

    /** A place for a way: a new one, a point, or one on the line between two points. */
    private long[] target() {
        int n = model.size();
        int what = below(6);
        if (what < 3 || n == 0) {
            return place();
        }
        long[] a = model.point(below(n));
        if (what == 3) {
            return a;
        }
        long[] b = model.point(below(n));
        int parts = 1 + below(5);
        int part = below(parts + 1);
        return new long[] {a[0] + (b[0] - a[0]) / parts * part, a[1] + (b[1] - a[1]) / parts * part};
    }

    // ---- comparing

    private void same(int call, long a, long b, long c, long d) {
        String name = "add link unlink edge side circle locate way count clear corner across turn sleeve"
            .split(" ")[call];
        told.append(name).append('(').append(a).append(", ").append(b).append(", ").append(c)
            .append(", ").append(d).append(")\n");
        long due = ofModel(call, (int) a, (int) b, (int) c, (int) d);
        long got = ofWalk(call, (int) a, (int) b, (int) c, (int) d);
        if (call == 7 && got > 0 && got < 1000) {
            turns += got;
        }
        if (got != due) {
            System.out.println(told);
            System.out.println("the last call answered " + got + ", due is " + due);
            System.exit(1);
        }
    }

    private void compareWay() {
        ways++;
        for (int i = -1; i < 80 && (i < 1 || model.sleeve(i - 1) >= 0); i++) {
            same(12, i, 0, 0, 0);
            same(13, i, 0, 0, 0);
        }
    }

    private void compareMesh() {
        for (int what = -1; what < 6; what++) {
            same(8, what, 0, 0, 0);
        }
        int size = model.triangles().size();
        for (int i = -1; i <= size; i++) {
            for (int k = 0; k < 3; k++) {
                same(10, i, k, 0, 0);
                same(11, i, k, 0, 0);
            }
        }
        same(10, 0, -1, 0, 0);
        same(11, 0, 3, 0, 0);
    }

    private void compareAll() {
        compareMesh();
        int n = model.size();
        for (int a = 0; a < n; a++) {
            for (int b = 0; b < n; b++) {
                same(3, a, b, 0, 0);
            }
        }
    }

    private long ofModel(int call, int a, int b, int c, int d) {
        try {
            switch (call) {
                case 0: return model.add(a, b);
                case 1: return model.link(a, b) ? 1 : 0;
                case 2: return model.unlink(a, b) ? 1 : 0;
                case 3: return model.edge(a, b);
                case 4: return model.side(a, b, c);
                case 5: return model.circle(a, b, c, d);
                case 6: return model.locate(a, b);
                case 7: return model.way(a, b, c, d);
                case 8: return model.count(a);
                case 9: return model.clear();
                case 10: return model.corner(a, b);
                case 11: return model.across(a, b);
                case 12: return model.turn(a);
                default: return model.sleeve(a);
            }
        } catch (IllegalArgumentException | IllegalStateException | IndexOutOfBoundsException e) {
            return codeOf(e);
        }
    }

    private long ofWalk(int call, int a, int b, int c, int d) {
        try {
            switch (call) {
                case 0: return walk.add(a, b);
                case 1: return walk.link(a, b) ? 1 : 0;
                case 2: return walk.unlink(a, b) ? 1 : 0;
                case 3: return walk.edge(a, b);
                case 4: return walk.side(a, b, c);
                case 5: return walk.circle(a, b, c, d);
                case 6: return walk.locate(a, b);
                case 7: return walk.way(a, b, c, d);
                case 8: return walk.count(a);
                case 9: return walk.clear();
                case 10: return walk.corner(a, b);
                case 11: return walk.across(a, b);
                case 12: return walk.turn(a);
                default: return walk.sleeve(a);
            }
        } catch (RuntimeException e) {
            return codeOf(e);
        }
    }

    private static long codeOf(RuntimeException e) {
        return e.getClass() == IllegalArgumentException.class ? 1001
            : e.getClass() == IllegalStateException.class ? 1002
            : e.getClass() == IndexOutOfBoundsException.class ? 1003 : 1004;
    }
}
