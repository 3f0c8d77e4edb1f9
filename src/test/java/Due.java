/** Compares answers with those that are due, and ends the test with exit code 1 if one differs. */
final class Due {
    private static final int MOST_SHOWN = 50;
    private static int wrong = 0;
    private static int compared = 0;
    private static String subject = "";

    private Due() {
    }

    /** What the comparisons from here on are about, which is told where one fails. */
    static void about(String newSubject) {
        subject = newSubject.isEmpty() ? "" : "[" + newSubject + "] ";
    }

    static void is(String what, long want, long got) {
        compared++;
        if (want != got) {
            fail(what + " answered " + got + ", due is " + want);
        }
    }

    static void is(String what, String want, String got) {
        compared++;
        if (!want.equals(got)) {
            fail(what + " gave \"" + got + "\", due is \"" + want + "\"");
        }
    }

    static void isNot(String what, long notWanted, long got) {
        compared++;
        if (notWanted == got) {
            fail(what + " answered " + got);
        }
    }

    static void fail(String message) {
        wrong++;
        if (wrong <= MOST_SHOWN) {
            System.out.println(subject + message);
        }
    }

    static boolean hasFailed() {
        return wrong > 0;
    }

    static void end() {
        System.out.println(compared + " answers compared, " + wrong + " not as due");
        if (wrong > 0) {
            System.exit(1);
        }
    }
}
