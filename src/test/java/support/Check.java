/** What the tests have in common: answers against those that are due, and calls that must be refused. */
final class Check {
    /** A call that may throw. */
    interface Call {
        void run();
    }

    private static int checks = 0;
    private static int wrong = 0;
    private static String place = "";

    private Check() {
    }

    /** What is looked at from here on belongs to this place. */
    static void enter(String name) {
        place = name.isEmpty() ? "" : name + ": ";
    }

    static int made() {
        return checks;
    }

    static void same(String what, long got, long due) {
        look(what, got == due, String.valueOf(got), String.valueOf(due));
    }

    static void sameDouble(String what, double got, double due) {
        look(what, Double.doubleToLongBits(got) == Double.doubleToLongBits(due), String.valueOf(got), String.valueOf(due));
    }

    static void sameText(String what, String got, String due) {
        look(what, got.equals(due), "'" + got + "'", "'" + due + "'");
    }

    private static void look(String what, boolean right, String got, String due) {
        checks++;
        if (!right) {
            wrong++;
            System.out.println(place + what + " answered " + got + ", due is " + due);
        }
    }

    static void holds(String what, boolean got) {
        same(what, got ? 1 : 0, 1);
    }

    /** The call throws this very exception (none below it), and changes nothing. */
    static void refused(String what, RuneBands stone, Class<?> due, Call call) {
        long before = stone.digest();
        sameText(what, thrown(call), due.getName());
        same(what + ": the digest afterwards", stone.digest(), before);
    }

    static String thrown(Call call) {
        try {
            call.run();
        } catch (RuntimeException e) {
            return e.getClass().getName();
        }
        return "nothing thrown";
    }

    static void end() {
        System.out.println(checks + " answers looked at, " + wrong + " not as due");
        if (wrong > 0 || checks == 0) {
            System.exit(1);
        }
    }
}
