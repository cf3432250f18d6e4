/** Collects the answers that are not as due, and ends the program accordingly. */
final class Expect {
    /** A call that may throw. */
    interface Call {
        Object make();
    }

    private int promise;
    private int checked;
    private int wrong;

    void promise(int number) {
        promise = number;
    }

    void due(String what, Object got, Object due) {
        checked++;
        if (!got.equals(due)) {
            wrong++;
            System.out.println("promise " + promise + ": " + what + ": " + got + ", due is " + due);
        }
    }

    void refused(String what, Class<? extends RuntimeException> due, Call call) {
        Object got;
        try {
            got = call.make();
        } catch (RuntimeException e) {
            got = e.getClass();
        }
        due(what, got, due);
    }

    void illegal(String what, Call call) {
        refused(what, IllegalArgumentException.class, call);
    }

    void outOfBounds(String what, Call call) {
        refused(what, IndexOutOfBoundsException.class, call);
    }

    void finish() {
        System.out.println(wrong == 0 ? checked + " answers as due" : wrong + " answers not as due");
        if (wrong != 0) {
            System.exit(1);
        }
    }
}
