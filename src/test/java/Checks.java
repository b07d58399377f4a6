/** Counts the answers that are not as due, and tells them. */
final class Checks {
    private static int wrong = 0;
    private static int looked = 0;

    private Checks() {
    }

    static void same(String what, long got, long due) {
        looked++;
        if (got != due) {
            wrong++;
            System.out.println(what + ": answered " + got + ", due is " + due);
        }
    }

    static void that(String what, boolean holds) {
        looked++;
        if (!holds) {
            wrong++;
            System.out.println(what + ": does not hold");
        }
    }

    static int wrong() {
        return wrong;
    }

    static void end() {
        System.out.println(looked + " answers looked at, " + wrong + " not as due");
        if (wrong > 0) {
            System.exit(1);
        }
    }
}
