/** Counts the answers that are not due, and prints each. */
final class Check {
    /** A call that may throw. */
    interface Call {
        long answer();
    }

    private int checked = 0;
    private int wrong = 0;

    void due(String what, long want, long got) {
        checked++;
        if (got != want) {
            wrong++;
            System.out.println(what + " answered " + got + ", due is " + want);
        }
    }

    void due(String what, boolean holds) {
        due(what, 1, holds ? 1 : 0);
    }

    /** The call throws exactly this exception, and changes nothing that can be asked for. */
    void fails(String what, Class<?> due, BumpsRiver x, Call call) {
        checked++;
        String before = Answers.of(x);
        String got = nameOfThrown(call);
        if (!got.equals(due.getName())) {
            wrong++;
            System.out.println(what + ": " + got + ", due is " + due.getName());
        }
        if (!before.equals(Answers.of(x))) {
            wrong++;
            System.out.println(what + " threw, and changed something");
        }
    }

    private static String nameOfThrown(Call call) {
        try {
            return "answered " + call.answer();
        } catch (RuntimeException e) {
            return e.getClass().getName();
        }
    }

    void close() {
        System.out.println(checked + " checked, " + wrong + " wrong");
        if (wrong != 0 || checked == 0) {
            System.exit(1);
        }
    }
}
