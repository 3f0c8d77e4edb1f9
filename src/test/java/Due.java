/** Compares answers with those that are due, and ends the test with exit code 1 if one differs. */
final class Due {
    private static int wrong = 0;
    private static int compared = 0;

    private Due() {
    }

    static void is(String what, long want, long got) {
        compared++;
        if (want != got) {
            wrong++;
            if (wrong <= 50) {
                System.out.println(what + " answered " + got + ", due is " + want);
            }
        }
    }

    static void is(String what, String want, String got) {
        compared++;
        if (!want.equals(got)) {
            wrong++;
            if (wrong <= 50) {
                System.out.println(what + " gave \"" + got + "\", due is \"" + want + "\"");
            }
        }
    }

    static boolean hasFailed() {
        return wrong > 0;
    }

    static void end() {
        System.out.println(compared + " answers compared, " + wrong + " not as due");
        if (wrong > 0) {
            System.exit(1);
        }
    }
}
