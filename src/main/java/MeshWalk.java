import java.util.Arrays;

/**
 * Points and links between them in the plane, the mesh of triangles that they
 * span, and the shortest way through a sleeve of its triangles.
 */
public final class MeshWalk {
    public static final int NONE = -1;

    private static final int FARTHEST = 536870911;
    private static final int MOST_POINTS = 40;
    // n points, h of them on the hull, make 2n - 2 - h triangles, and h is 3 or more.
    private static final int MOST_TRIANGLES = 2 * MOST_POINTS - 5;
    private static final int PAIRS = MOST_POINTS * MOST_POINTS;
    // The two places of a call stand behind the points, so that one SIDE serves both.
    private static final int START = MOST_POINTS;
    private static final int GOAL = MOST_POINTS + 1;
    // Flips never come back to an edge that they took away, so 40 points need far fewer.
    private static final int MANY_FLIPS = 1000000;

    private final Plane plane;
    private final Links links;
    private final Mesh mesh;
    private final Grower grower;
    private final Walk walk;

    public MeshWalk() {
        Plane newPlane = new Plane();
        Links newLinks = new Links(newPlane);
        Mesh newMesh = new Mesh(newPlane, newLinks);
        plane = newPlane;
        links = newLinks;
        mesh = newMesh;
        grower = new Grower(newPlane, newMesh);
        walk = new Walk(newPlane, newMesh);
    }

    public int add(int x, int y) throws IllegalArgumentException, IllegalStateException {
        needPlace(x, y);
        int point = plane.size();
        if (point == MOST_POINTS) {
            throw new IllegalStateException("there are 40 points");
        }
        plane.put(point, x, y);
        if (plane.pointAt(point) != NONE || links.reach(point)) {
            return NONE;
        }
        plane.keep();
        grower.takeIn(point);
        return point;
    }

    public boolean link(int a, int b) throws IllegalArgumentException {
        needPair(a, b);
        if (links.has(a, b)) {
            return true;
        }
        if (plane.isCovered(a, b) || links.cross(a, b)) {
            return false;
        }
        links.set(a, b);
        grower.force(a, b);
        return true;
    }

    public boolean unlink(int a, int b) throws IllegalArgumentException {
        needPair(a, b);
        if (!links.has(a, b)) {
            return false;
        }
        links.drop(a, b);
        grower.free(a, b);
        return true;
    }

    public int clear() {
        int were = plane.size();
        plane.reset();
        links.reset();
        mesh.reset();
        return were;
    }

    public int count(int what) {
        switch (what) {
            case 0:
                return plane.size();
            case 1:
                return links.size();
            case 2:
                return mesh.size();
            case 3:
                return mesh.edges();
            case 4:
                return mesh.hullEdges();
            default:
                return NONE;
        }
    }

    public int corner(int i, int k) throws IndexOutOfBoundsException {
        needCorner(i, k);
        return mesh.cornerOf(i, k);
    }

    public int across(int i, int k) throws IndexOutOfBoundsException {
        needCorner(i, k);
        return mesh.beyond(i, k);
    }

    public int edge(int a, int b) throws IllegalArgumentException {
        needPair(a, b);
        if (!mesh.hasEdge(a, b)) {
            return 0;
        }
        return links.has(a, b) ? 2 : 1;
    }

    public int side(int a, int b, int c) throws IllegalArgumentException {
        needPoint(a);
        needPoint(b);
        needPoint(c);
        return plane.sideOf(a, b, c);
    }

    public int circle(int a, int b, int c, int d) throws IllegalArgumentException {
        needPoint(a);
        needPoint(b);
        needPoint(c);
        needPoint(d);
        int round = plane.sideOf(a, b, c);
        if (round == 0) {
            throw new IllegalArgumentException("no circle goes through points on one line");
        }
        return round * plane.insideOf(a, b, c, d);
    }

    public int locate(int x, int y) throws IllegalArgumentException {
        needPlace(x, y);
        plane.put(START, x, y);
        return mesh.holding(START);
    }

    public int way(int ax, int ay, int bx, int by) throws IllegalArgumentException {
        needPlace(ax, ay);
        needPlace(bx, by);
        plane.put(START, ax, ay);
        plane.put(GOAL, bx, by);
        int first = mesh.holding(START);
        int last = mesh.holding(GOAL);
        if (first == NONE || last == NONE || !walk.findRow(first, last)) {
            return NONE;
        }
        return walk.pullTight();
    }

    public int turn(int i) {
        return walk.turnAt(i);
    }

    public int sleeve(int i) {
        return walk.triangleAt(i);
    }

    private void needPlace(int x, int y) {
        if (x < -FARTHEST || x > FARTHEST || y < -FARTHEST || y > FARTHEST) {
            throw new IllegalArgumentException("a coordinate is out of bounds");
        }
    }

    private void needPoint(int i) {
        if (i < 0 || i >= plane.size()) {
            throw new IllegalArgumentException("there is no such point");
        }
    }

    private void needPair(int a, int b) {
        needPoint(a);
        needPoint(b);
        if (a == b) {
            throw new IllegalArgumentException("the points are the same");
        }
    }

    private void needCorner(int i, int k) {
        if (i < 0 || i >= mesh.size() || k < 0 || k > 2) {
            throw new IndexOutOfBoundsException("there is no such triangle, corner or edge");
        }
    }

    private static int pair(int a, int b) {
        return a * MOST_POINTS + b;
    }

    private static int signOf(long number) {
        return number > 0 ? 1 : number < 0 ? -1 : 0;
    }

    /** A sum of products of numbers below 2^61, which outgrow a long. */
    private static final class WideSum {
        private static final int BITS = 31;
        private static final long MASK = (1L << BITS) - 1;

        // The sum is high * 2^62 + middle * 2^31 + low; middle and low are never negative.
        private long high;
        private long middle;
        private long low;

        void reset() {
            high = 0;
            middle = 0;
            low = 0;
        }

        void plusProduct(long a, long b) {
            long aHigh = a >> BITS;
            long aLow = a & MASK;
            long bHigh = b >> BITS;
            long bLow = b & MASK;
            long lower = aLow * bLow;
            long mixed = aHigh * bLow + aLow * bHigh + (lower >> BITS);
            high += aHigh * bHigh + (mixed >> BITS);
            middle += mixed & MASK;
            low += lower & MASK;
        }

        int sign() {
            long carried = middle + (low >> BITS);
            long top = high + (carried >> BITS);
            if (top != 0) {
                return signOf(top);
            }
            return signOf((carried & MASK) | (low & MASK));
        }
    }

    /** Where the points are, and behind them the places of the call at hand. */
    private static final class Plane {
        private final int[] xs = new int[MOST_POINTS + 2];
        private final int[] ys = new int[MOST_POINTS + 2];
        private final WideSum sum = new WideSum();
        private int size;

        int size() {
            return size;
        }

        void reset() {
            size = 0;
        }

        void put(int i, int x, int y) {
            xs[i] = x;
            ys[i] = y;
        }

        void keep() {
            size++;
        }

        /** The point at the place of i, which is none of the points itself. */
        int pointAt(int i) {
            for (int p = 0; p < size; p++) {
                if (xs[p] == xs[i] && ys[p] == ys[i]) {
                    return p;
                }
            }
            return NONE;
        }

        /** Twice the area of a, b, c, with the sign of SIDE. */
        long areaOf(int a, int b, int c) {
            long bx = xs[b] - xs[a];
            long by = ys[b] - ys[a];
            long cx = xs[c] - xs[a];
            long cy = ys[c] - ys[a];
            return bx * cy - by * cx;
        }

        int sideOf(int a, int b, int c) {
            return signOf(areaOf(a, b, c));
        }

        /** 1 if d is inside the circle through a, b, c, which go round to the left; 0 on it. */
        int insideOf(int a, int b, int c, int d) {
            sum.reset();
            sum.plusProduct(squareOf(d, a), areaOf(d, b, c));
            sum.plusProduct(squareOf(d, b), areaOf(d, c, a));
            sum.plusProduct(squareOf(d, c), areaOf(d, a, b));
            return sum.sign();
        }

        private long squareOf(int a, int b) {
            long x = xs[b] - xs[a];
            long y = ys[b] - ys[a];
            return x * x + y * y;
        }

        /** Whether p, which is at neither end, lies on the segment from a to b. */
        boolean isOn(int a, int b, int p) {
            return areaOf(a, b, p) == 0
                && Math.min(xs[a], xs[b]) <= xs[p] && xs[p] <= Math.max(xs[a], xs[b])
                && Math.min(ys[a], ys[b]) <= ys[p] && ys[p] <= Math.max(ys[a], ys[b]);
        }

        /** Whether another point lies on the segment from a to b. */
        boolean isCovered(int a, int b) {
            for (int p = 0; p < size; p++) {
                if (p != a && p != b && isOn(a, b, p)) {
                    return true;
                }
            }
            return false;
        }

        /** An order of the points that holds along every line. */
        boolean isBefore(int a, int b) {
            return xs[a] < xs[b] || xs[a] == xs[b] && ys[a] < ys[b];
        }
    }

    /** Which points are linked. */
    private static final class Links {
        private final Plane plane;
        // Bit b of number a: a and b are linked.
        private final long[] linked = new long[MOST_POINTS];
        private int size;

        Links(Plane plane) {
            this.plane = plane;
        }

        int size() {
            return size;
        }

        boolean has(int a, int b) {
            return (linked[a] >> b & 1L) != 0;
        }

        void set(int a, int b) {
            linked[a] |= 1L << b;
            linked[b] |= 1L << a;
            size++;
        }

        void drop(int a, int b) {
            linked[a] &= ~(1L << b);
            linked[b] &= ~(1L << a);
            size--;
        }

        void reset() {
            Arrays.fill(linked, 0L);
            size = 0;
        }

        /** Whether a link goes over the place of p. */
        boolean reach(int p) {
            for (int c = 0; c < plane.size(); c++) {
                for (int d = c + 1; d < plane.size(); d++) {
                    if (has(c, d) && plane.isOn(c, d, p)) {
                        return true;
                    }
                }
            }
            return false;
        }

        /** Whether a link crosses the segment from a to b, on which no other point lies. */
        boolean cross(int a, int b) {
            for (int c = 0; c < plane.size(); c++) {
                for (int d = c + 1; d < plane.size(); d++) {
                    if (has(c, d) && doCross(a, b, c, d)) {
                        return true;
                    }
                }
            }
            return false;
        }

        // A shared end makes a SIDE 0, and so no crossing.
        private boolean doCross(int a, int b, int c, int d) {
            return plane.sideOf(a, b, c) * plane.sideOf(a, b, d) < 0
                && plane.sideOf(c, d, a) * plane.sideOf(c, d, b) < 0;
        }
    }

    /** The triangles, and how they are numbered. */
    private static final class Mesh {
        private final Plane plane;
        private final Links links;
        // For each pair a, b: the third corner of the triangle to the left of a to b.
        private final int[] thirds = new int[PAIRS];
        // For each pair a, b that has a third corner: the number of that triangle.
        private final int[] numbers = new int[PAIRS];
        private final int[] corners = new int[3 * MOST_TRIANGLES];
        private int size;
        // Edges that may not be GOOD, each from its lesser end and at most once.
        private final int[] suspects = new int[PAIRS / 2];
        private int pending;
        // Bit b of number a: the edge from a to b is among the suspects.
        private final long[] suspected = new long[MOST_POINTS];

        Mesh(Plane plane, Links links) {
            this.plane = plane;
            this.links = links;
            Arrays.fill(thirds, NONE);
        }

        void reset() {
            Arrays.fill(thirds, NONE);
            size = 0;
        }

        int size() {
            return size;
        }

        /** By Euler: points - edges + triangles = 1. */
        int edges() {
            return size == 0 ? 0 : plane.size() + size - 1;
        }

        /** The triangles have three sides each, and every inner edge is a side of two. */
        int hullEdges() {
            return 2 * edges() - 3 * size;
        }

        int cornerOf(int triangle, int k) {
            return corners[3 * triangle + k];
        }

        int nextCorner(int triangle, int k) {
            return corners[3 * triangle + (k == 2 ? 0 : k + 1)];
        }

        int thirdOf(int a, int b) {
            return thirds[pair(a, b)];
        }

        boolean hasEdge(int a, int b) {
            return thirdOf(a, b) != NONE || thirdOf(b, a) != NONE;
        }

        int beyond(int triangle, int k) {
            int a = cornerOf(triangle, k);
            int b = nextCorner(triangle, k);
            return thirdOf(b, a) == NONE ? NONE : numbers[pair(b, a)];
        }

        /** The triangle beyond an edge that is no link. */
        int openBeyond(int triangle, int k) {
            boolean shut = links.has(cornerOf(triangle, k), nextCorner(triangle, k));
            return shut ? NONE : beyond(triangle, k);
        }

        /** The triangle with the least number in which the place of p lies. */
        int holding(int p) {
            for (int triangle = 0; triangle < size; triangle++) {
                if (holds(triangle, p)) {
                    return triangle;
                }
            }
            return NONE;
        }

        private boolean holds(int triangle, int p) {
            for (int k = 0; k < 3; k++) {
                if (plane.areaOf(cornerOf(triangle, k), nextCorner(triangle, k), p) < 0) {
                    return false;
                }
            }
            return true;
        }

        void put(int a, int b, int c) {
            thirds[pair(a, b)] = c;
            thirds[pair(b, c)] = a;
            thirds[pair(c, a)] = b;
        }

        void take(int a, int b, int c) {
            thirds[pair(a, b)] = NONE;
            thirds[pair(b, c)] = NONE;
            thirds[pair(c, a)] = NONE;
        }

        /** Gives the two triangles at the edge from a to b their other diagonal. */
        void flip(int a, int b) {
            int c = thirdOf(a, b);
            int d = thirdOf(b, a);
            take(a, b, c);
            take(b, a, d);
            put(a, d, c);
            put(d, b, c);
            suspect(a, d);
            suspect(d, b);
            suspect(b, c);
            suspect(c, a);
        }

        void suspect(int a, int b) {
            int from = Math.min(a, b);
            int to = Math.max(a, b);
            if ((suspected[from] >> to & 1L) == 0) {
                suspected[from] |= 1L << to;
                suspects[pending] = pair(from, to);
                pending++;
            }
        }

        /** Flips until every edge is GOOD again, and numbers the triangles anew. */
        void settle() {
            for (int step = 0; step < MANY_FLIPS && pending > 0; step++) {
                pending--;
                int a = suspects[pending] / MOST_POINTS;
                int b = suspects[pending] % MOST_POINTS;
                suspected[a] &= ~(1L << b);
                if (!links.has(a, b) && !isGood(a, b)) {
                    flip(a, b);
                }
            }
            giveNumbers();
        }

        private boolean isGood(int a, int b) {
            int c = thirdOf(a, b);
            int d = thirdOf(b, a);
            if (c == NONE || d == NONE) {
                return true;
            }
            int inside = plane.insideOf(a, b, c, d);
            return inside < 0 || inside == 0 && Math.min(a, b) < Math.min(c, d);
        }

        // The pairs come in the order of the first two corners, and these tell the third.
        private void giveNumbers() {
            size = 0;
            for (int a = 0; a < plane.size(); a++) {
                for (int b = a + 1; b < plane.size(); b++) {
                    if (thirdOf(a, b) > a) {
                        giveNextNumber(a, b, thirdOf(a, b));
                    }
                }
            }
        }

        private void giveNextNumber(int a, int b, int c) {
            numbers[pair(a, b)] = size;
            numbers[pair(b, c)] = size;
            numbers[pair(c, a)] = size;
            corners[3 * size] = a;
            corners[3 * size + 1] = b;
            corners[3 * size + 2] = c;
            size++;
        }
    }

    /** Brings new points and links into the mesh, and frees it of old links. */
    private static final class Grower {
        private final Plane plane;
        private final Mesh mesh;
        // The edges that cross a new link, by their ends to its left and to its right.
        private final int[] lefts = new int[MOST_TRIANGLES];
        private final int[] rights = new int[MOST_TRIANGLES];
        private int crossing;

        Grower(Plane plane, Mesh mesh) {
            this.plane = plane;
            this.mesh = mesh;
        }

        /** Takes in the newest point, which is on no link. */
        void takeIn(int p) {
            if (mesh.size() == 0) {
                begin(p);
            } else {
                int triangle = mesh.holding(p);
                if (triangle == NONE) {
                    reachOut(p);
                } else {
                    split(triangle, p);
                }
            }
            mesh.settle();
        }

        // All points before p are on one line: p, if beside it, sees each gap between them.
        private void begin(int p) {
            if (p < 2 || plane.sideOf(0, 1, p) == 0) {
                return;
            }
            for (int a = 0; a < p; a++) {
                int b = nextOnLine(a, p);
                if (b != NONE) {
                    putLeftRound(a, b, p);
                }
            }
        }

        private int nextOnLine(int a, int end) {
            int next = NONE;
            for (int b = 0; b < end; b++) {
                if (plane.isBefore(a, b) && (next == NONE || plane.isBefore(b, next))) {
                    next = b;
                }
            }
            return next;
        }

        private void putLeftRound(int a, int b, int c) {
            if (plane.sideOf(a, b, c) > 0) {
                mesh.put(a, b, c);
            } else {
                mesh.put(b, a, c);
            }
        }

        // p is outside the hull and gets a triangle with each hull edge that it sees.
        private void reachOut(int p) {
            for (int triangle = 0; triangle < mesh.size(); triangle++) {
                for (int k = 0; k < 3; k++) {
                    int a = mesh.cornerOf(triangle, k);
                    int b = mesh.nextCorner(triangle, k);
                    if (mesh.thirdOf(b, a) == NONE && plane.sideOf(a, b, p) < 0) {
                        mesh.put(b, a, p);
                        mesh.suspect(a, b);
                    }
                }
            }
        }

        private void split(int triangle, int p) {
            int a = mesh.cornerOf(triangle, 0);
            int b = mesh.cornerOf(triangle, 1);
            int c = mesh.cornerOf(triangle, 2);
            mesh.take(a, b, c);
            join(a, b, p);
            join(b, c, p);
            join(c, a, p);
        }

        private void join(int a, int b, int p) {
            if (plane.sideOf(a, b, p) > 0) {
                mesh.put(a, b, p);
                mesh.suspect(a, b);
            } else {
                splitBeyond(a, b, p);
            }
        }

        // p is on the edge from a to b, so the triangle beyond it, if any, is split too.
        private void splitBeyond(int a, int b, int p) {
            int c = mesh.thirdOf(b, a);
            if (c != NONE) {
                mesh.take(b, a, c);
                mesh.put(a, c, p);
                mesh.put(c, b, p);
                mesh.suspect(a, c);
                mesh.suspect(c, b);
            }
        }

        /** Makes the new link from a to b an edge. */
        void force(int a, int b) {
            if (mesh.size() == 0) {
                return;
            }
            for (int step = 0; step < MANY_FLIPS && !mesh.hasEdge(a, b); step++) {
                listCrossing(a, b);
                flipAtPeak(a, b);
            }
            mesh.settle();
        }

        private void listCrossing(int a, int b) {
            int right = firstRight(a, b);
            int left = right == NONE ? NONE : mesh.thirdOf(a, right);
            int next = left;
            for (crossing = 0; crossing < MOST_TRIANGLES && next != NONE && next != b; crossing++) {
                lefts[crossing] = left;
                rights[crossing] = right;
                next = mesh.thirdOf(left, right);
                if (next != NONE && plane.sideOf(a, b, next) > 0) {
                    left = next;
                } else {
                    right = next;
                }
            }
        }

        // The corner to the right of a to b of the triangle through which it leaves a.
        private int firstRight(int a, int b) {
            for (int right = 0; right < plane.size(); right++) {
                int left = mesh.thirdOf(a, right);
                if (left != NONE && plane.sideOf(a, b, right) < 0 && plane.sideOf(a, b, left) > 0) {
                    return right;
                }
            }
            return NONE;
        }

        // Of the edges at the left end farthest from the link (the first of such ends) one
        // can always be flipped, and no new edge ends there again: so this comes to an end.
        private void flipAtPeak(int a, int b) {
            int peak = peakOf(a, b);
            for (int i = 0; i < crossing; i++) {
                if (lefts[i] == peak && canFlip(peak, rights[i])) {
                    int before = mesh.thirdOf(rights[i], peak);
                    int after = mesh.thirdOf(peak, rights[i]);
                    mesh.flip(peak, rights[i]);
                    mesh.suspect(before, after);
                    return;
                }
            }
        }

        private int peakOf(int a, int b) {
            int peak = NONE;
            long highest = 0;
            for (int i = 0; i < crossing; i++) {
                long height = plane.areaOf(a, b, lefts[i]);
                if (height > highest) {
                    highest = height;
                    peak = lefts[i];
                }
            }
            return peak;
        }

        private boolean canFlip(int left, int right) {
            int before = mesh.thirdOf(right, left);
            int after = mesh.thirdOf(left, right);
            return before != NONE && after != NONE
                && plane.sideOf(before, right, after) > 0
                && plane.sideOf(after, left, before) > 0;
        }

        /** The edge from a to b is no link any more. */
        void free(int a, int b) {
            if (mesh.size() > 0) {
                mesh.suspect(a, b);
                mesh.settle();
            }
        }
    }

    /** One border of the funnel: from its tip, which is not in the row, to its mouth. */
    private static final class Chain {
        // 1 for the border to the left, -1 for the one to the right.
        private final int hand;
        private final int[] row = new int[MOST_TRIANGLES + 2];
        private int head;
        private int tail;

        Chain(int hand) {
            this.hand = hand;
        }

        void reset() {
            head = 0;
            tail = 0;
        }

        int size() {
            return tail - head;
        }

        int first() {
            return row[head];
        }

        int last() {
            return row[tail - 1];
        }

        int lastButOne(int tip) {
            return tail - head > 1 ? row[tail - 2] : tip;
        }

        void push(int point) {
            row[tail] = point;
            tail++;
        }

        void dropFirst() {
            head++;
        }

        void dropLast() {
            tail--;
        }
    }

    /**
     * All shortest ways from the start to the gate reached so far: one way up to
     * the tip, and from there on they lie between two borders.
     */
    private static final class Funnel {
        private final Plane plane;
        private final Chain left = new Chain(1);
        private final Chain right = new Chain(-1);
        private int tip;
        private int leftEnd;
        private int rightEnd;
        private final int[] turns = new int[MOST_TRIANGLES + 2];
        private int size;

        Funnel(Plane plane) {
            this.plane = plane;
        }

        int size() {
            return size;
        }

        int turnAt(int i) {
            return i < 0 || i >= size ? NONE : turns[i];
        }

        void open(int start) {
            size = 0;
            left.reset();
            right.reset();
            tip = start;
            leftEnd = start;
            rightEnd = start;
        }

        /** The next gate, as it is seen by one who goes through it. */
        void pass(int newLeft, int newRight) {
            if (newLeft != leftEnd) {
                extend(left, right, newLeft);
                leftEnd = newLeft;
            }
            if (newRight != rightEnd) {
                extend(right, left, newRight);
                rightEnd = newRight;
            }
        }

        void close(int goal) {
            extend(left, right, goal);
            for (int more = left.size(); more > 1; more--) {
                keepTurn(left.first());
                left.dropFirst();
            }
            // A goal at the tip adds no stretch: the tip is the end of the way then.
            if (size > 0 && turns[size - 1] == goal) {
                size--;
            }
        }

        // Brings a border to a new end; if that lies beyond the other border, the tip
        // goes on along the other one, and what it passes are turns.
        private void extend(Chain near, Chain far, int end) {
            for (int more = near.size(); more > 0 && !bendsOutward(near, end); more--) {
                near.dropLast();
            }
            if (near.size() == 0) {
                for (int more = far.size(); more > 0 && isBeyond(far, end); more--) {
                    tip = far.first();
                    keepTurn(tip);
                    far.dropFirst();
                }
            }
            near.push(end);
        }

        // A border that goes straight on needs no corner there: that is no turn.
        private boolean bendsOutward(Chain chain, int end) {
            return chain.hand * plane.areaOf(chain.lastButOne(tip), chain.last(), end) > 0;
        }

        private boolean isBeyond(Chain chain, int end) {
            return chain.hand * plane.areaOf(tip, chain.first(), end) > 0;
        }

        private void keepTurn(int point) {
            turns[size] = point;
            size++;
        }
    }

    /** The last way, and how to find a new one. */
    private static final class Walk {
        private final Plane plane;
        private final Mesh mesh;
        private final Funnel funnel;
        private final int[] row = new int[MOST_TRIANGLES];
        private int length;
        // How many triangles each one is away from the last of the row; NONE: not reached.
        private final int[] steps = new int[MOST_TRIANGLES];
        private final int[] queue = new int[MOST_TRIANGLES];

        Walk(Plane plane, Mesh mesh) {
            this.plane = plane;
            this.mesh = mesh;
            this.funnel = new Funnel(plane);
        }

        int triangleAt(int i) {
            return i < 0 || i >= length ? NONE : row[i];
        }

        int turnAt(int i) {
            return funnel.turnAt(i);
        }

        /** Whether there is a sleeve; if so, it becomes the row. */
        boolean findRow(int first, int last) {
            countSteps(last);
            if (steps[first] == NONE) {
                return false;
            }
            length = steps[first] + 1;
            row[0] = first;
            for (int i = 1; i < length; i++) {
                row[i] = nextAfter(row[i - 1]);
            }
            return true;
        }

        // Counted from the far end, so that the row can then be chosen from the near one.
        private void countSteps(int last) {
            Arrays.fill(steps, NONE);
            steps[last] = 0;
            queue[0] = last;
            int tail = 1;
            for (int head = 0; head < tail && head < mesh.size(); head++) {
                int triangle = queue[head];
                for (int k = 0; k < 3; k++) {
                    int next = mesh.openBeyond(triangle, k);
                    if (next != NONE && steps[next] == NONE) {
                        steps[next] = steps[triangle] + 1;
                        queue[tail] = next;
                        tail++;
                    }
                }
            }
        }

        private int nextAfter(int triangle) {
            int least = NONE;
            for (int k = 0; k < 3; k++) {
                int next = mesh.openBeyond(triangle, k);
                boolean nearer = next != NONE && steps[next] == steps[triangle] - 1;
                if (nearer && (least == NONE || next < least)) {
                    least = next;
                }
            }
            return least;
        }

        /** Pulls the way through the row tight: how many turns it has. */
        int pullTight() {
            funnel.open(pointOr(START));
            for (int i = 1; i < length; i++) {
                passGate(row[i - 1], row[i]);
            }
            funnel.close(pointOr(GOAL));
            return funnel.size();
        }

        // A place at a point is taken as that point, so that the funnel sees they are one.
        private int pointOr(int place) {
            int point = plane.pointAt(place);
            return point == NONE ? place : point;
        }

        private void passGate(int from, int to) {
            for (int k = 0; k < 3; k++) {
                if (mesh.openBeyond(from, k) == to) {
                    funnel.pass(mesh.nextCorner(from, k), mesh.cornerOf(from, k));
                    return;
                }
            }
        }
    }
}
