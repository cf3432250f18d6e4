/** States that an object can be in, each made anew as often as it is wanted. */
enum World {
    NEW {
        @Override
        MeshWalk make() {
            return new MeshWalk();
        }
    },
    ONE_POINT {
        @Override
        MeshWalk make() {
            return Look.of(0, 0);
        }
    },
    TWO_LINKED {
        @Override
        MeshWalk make() {
            MeshWalk m = Look.of(0, 0, 10, 4);
            m.link(0, 1);
            return m;
        }
    },
    /** Four points on one line, in the order 1 0 3 2, with a link at either end. */
    ON_ONE_LINE {
        @Override
        MeshWalk make() {
            MeshWalk m = Look.of(0, 0, -8, -8, 20, 20, 6, 6);
            m.link(0, 1);
            m.link(2, 3);
            return m;
        }
    },
    ONE_TRIANGLE {
        @Override
        MeshWalk make() {
            return Look.of(0, 0, 10, 0, 0, 10);
        }
    },
    /** Triangles 0 1 4, 0 4 3, 1 2 4, 2 3 4, links 4-0 and 1-2, the last way 0 2 3 1 round point 4. */
    WALKED {
        @Override
        MeshWalk make() {
            MeshWalk m = Look.of(0, 0, 10, 0, 10, 10, 0, 10, 5, 5);
            m.link(4, 0);
            m.link(1, 2);
            m.way(5, 1, 1, 5);
            return m;
        }
    },
    /** The way of the one before, and no points any more. */
    CLEARED {
        @Override
        MeshWalk make() {
            MeshWalk m = WALKED.make();
            m.clear();
            return m;
        }
    },
    /** 40 points on the curve y = x * x, with two links. */
    FULL {
        @Override
        MeshWalk make() {
            MeshWalk m = new MeshWalk();
            for (int i = 0; i < 40; i++) {
                m.add(i, i * i);
            }
            m.link(0, 2);
            m.link(10, 39);
            m.way(1, 2, 38, 1444);
            return m;
        }
    },
    /** 40 points on one line, linked one by one. */
    FULL_LINE {
        @Override
        MeshWalk make() {
            MeshWalk m = new MeshWalk();
            for (int i = 0; i < 40; i++) {
                m.add(3 * i, i);
            }
            for (int i = 1; i < 40; i++) {
                m.link(i - 1, i);
            }
            return m;
        }
    };

    /** Something that is done to an object. */
    interface Deed {
        Object on(MeshWalk m);
    }

    abstract MeshWalk make();

    /** Holds the answer of a deed against the one that is due, and the object against one without the deed. */
    void unchangedBy(Expect expect, String what, Object due, Deed deed) {
        MeshWalk m = make();
        expect.due(this + ", " + what, Expect.answer(() -> deed.on(m)), due);
        expect.due(this + " after " + what, Look.whole(m), Look.whole(make()));
    }

    /** The same for a deed that is to be refused with IllegalArgumentException. */
    void refuses(Expect expect, String what, Deed deed) {
        unchangedBy(expect, what, IllegalArgumentException.class, deed);
    }

    int points() {
        return make().count(0);
    }

    int triangles() {
        return make().count(2);
    }
}
