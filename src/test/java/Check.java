import java.util.function.IntUnaryOperator;

/** Counts the answers that are not due, and prints each. */
final class Check {
    static final Class<?> INDEX = IndexOutOfBoundsException.class;
    static final Class<?> ARGUMENT = IllegalArgumentException.class;
    static final Class<?> STATE = IllegalStateException.class;

    /** A call that may throw. */
    interface Call {
        long answer();
    }

    /** Makes an object on which the same calls have been made each time. */
    interface Scene {
        BumpsRiver made();
    }

    interface Deed {
        int on(BumpsRiver x);
    }

    interface DeedOfCrew {
        int on(BumpsRiver x, int crew);
    }

    private int checked = 0;
    private int wrong = 0;
    private String section = "";

    /** What stands ahead of each message from here on. */
    void within(String newSection) {
        section = newSection;
    }

    int checked() {
        return checked;
    }

    private void wrong(String message) {
        wrong++;
        System.out.println(section + message);
    }

    void due(String what, long want, long got) {
        checked++;
        if (got != want) {
            wrong(what + " answered " + got + ", due is " + want);
        }
    }

    void due(String what, boolean holds) {
        due(what, 1, holds ? 1 : 0);
    }

    /** The call throws exactly this exception. */
    void fails(String what, Class<?> due, Call call) {
        checked++;
        String got = nameOfThrown(call);
        if (!got.equals(due.getName())) {
            wrong(what + ": " + got + ", due is " + due.getName());
        }
    }

    /** No crew has these numbers, if so many crews were told. */
    void needsCrew(String what, int crews, IntUnaryOperator call) {
        for (int crew : numbersOfNoCrew(crews)) {
            fails(what + " of no crew " + crew, INDEX, () -> call.applyAsInt(crew));
        }
    }

    private static int[] numbersOfNoCrew(int crews) {
        return new int[] {-1, crews, 24, Integer.MAX_VALUE, Integer.MIN_VALUE};
    }

    /** In this scene the call throws exactly this exception, and is as if it had not been made. */
    void refused(String what, Class<?> due, Scene scene, Deed deed) {
        BumpsRiver x = scene.made();
        fails(what, due, () -> deed.on(x));
        due(what + " is refused and changes nothing", Answers.of(scene.made()).equals(Answers.of(x)));
    }

    void refusedForNoCrew(Scene scene, int crews, DeedOfCrew deed) {
        for (int crew : numbersOfNoCrew(crews)) {
            refused("crew " + crew, INDEX, scene, x -> deed.on(x, crew));
        }
    }

    void chartIs(String what, BumpsRiver x, int... crews) {
        for (int place = 0; place < crews.length; place++) {
            due(what + ": place of " + crews[place], place, x.place(crews[place]));
            due(what + ": placeAnew of " + crews[place], place, x.placeAnew(crews[place]));
        }
    }

    void rowsAre(String what, BumpsRiver x, int... crews) {
        for (int i = 0; i < crews.length; i++) {
            due(what + ": rows(" + i + ")", crews[i], x.rows(i));
        }
        due(what + ": rows behind the last", BumpsRiver.NONE, x.rows(crews.length));
    }

    void lanesAre(String what, BumpsRiver x, int heat, int... crews) {
        for (int lane = 1; lane <= 6; lane++) {
            due(what + ": lane(" + heat + ", " + lane + ")", crews[lane - 1], x.lane(heat, lane));
        }
    }

    void resultsAre(String what, BumpsRiver x, int... crews) {
        for (int place = 0; place < crews.length; place++) {
            due(what + ": result(" + place + ")", crews[place], x.result(place));
        }
        due(what + ": result behind the last", BumpsRiver.NONE, x.result(crews.length));
    }

    private static String nameOfThrown(Call call) {
        try {
            return "answered " + call.answer();
        } catch (RuntimeException e) {
            return e.getClass().getName();
        }
    }

    void close() {
        System.out.println(checked + " checked, " + wrong + " wrong");
        if (wrong != 0 || checked == 0) {
            System.exit(1);
        }
    }
}
