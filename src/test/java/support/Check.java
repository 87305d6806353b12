/** What the tests have in common: answers against those that are due, and calls that must be refused. */
final class Check {
    /** A call that may throw. */
    interface Call {
        void run();
    }

    private static int checks = 0;
    private static int wrong = 0;

    private Check() {
    }

    static void same(String what, long got, long due) {
        checks++;
        if (got != due) {
            wrong++;
            System.out.println(what + " answered " + got + ", due is " + due);
        }
    }

    static void sameDouble(String what, double got, double due) {
        checks++;
        if (Double.doubleToLongBits(got) != Double.doubleToLongBits(due)) {
            wrong++;
            System.out.println(what + " answered " + got + ", due is " + due);
        }
    }

    static void sameText(String what, String got, String due) {
        checks++;
        if (!got.equals(due)) {
            wrong++;
            System.out.println(what + " answered '" + got + "', due is '" + due + "'");
        }
    }

    static void holds(String what, boolean got) {
        same(what, got ? 1 : 0, 1);
    }

    /** The call throws this very exception (none below it), and changes nothing. */
    static void refused(String what, RuneBands stone, Class<?> due, Call call) {
        long before = stone.digest();
        sameText(what, thrown(call), due.getName());
        same(what + ": the digest afterwards", stone.digest(), before);
    }

    static String thrown(Call call) {
        try {
            call.run();
        } catch (RuntimeException e) {
            return e.getClass().getName();
        }
        return "nothing thrown";
    }

    static void end() {
        System.out.println(checks + " answers looked at, " + wrong + " not as due");
        if (wrong > 0 || checks == 0) {
            System.exit(1);
        }
    }
}
