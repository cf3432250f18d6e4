/** Collects the answers that are not as due, and ends the program accordingly. */
final class Expect {
    /** A call that may throw. */
    interface Call {
        Object make();
    }

    private String about = "";
    private int checked;
    private int wrong;

    void promise(int number) {
        about = "promise " + number;
    }

    /** The words of the document that the next answers are about. */
    void words(String words) {
        about = "\"" + words + "\"";
    }

    void due(String what, Object got, Object due) {
        checked++;
        if (!got.equals(due)) {
            wrong++;
            System.out.println(about + ": " + what + ": " + got + ", due is " + due);
        }
    }

    /** The answer of a call, or the class of what it throws. */
    static Object answer(Call call) {
        try {
            return call.make();
        } catch (RuntimeException e) {
            return e.getClass();
        }
    }

    void refused(String what, Class<? extends RuntimeException> due, Call call) {
        due(what, answer(call), due);
    }

    void illegal(String what, Call call) {
        refused(what, IllegalArgumentException.class, call);
    }

    void outOfBounds(String what, Call call) {
        refused(what, IndexOutOfBoundsException.class, call);
    }

    void finish() {
        System.out.println(wrong == 0 ? checked + " answers as due" : wrong + " answers not as due");
        if (wrong != 0) {
            System.exit(1);
        }
    }
}
