import java.util.function.IntUnaryOperator;

/** What an object answers from a moment on, as one text; the object is not to be used afterwards. */
final class Answers {
    private static final int CREWS = 24, PLACES = 24, DAYS = 16, HEATS = 4, DIVISIONS = 8;
    private static final String NONE = "-1";

    private final BumpsRiver x;
    private final StringBuilder all = new StringBuilder();

    private Answers(BumpsRiver x) {
        this.x = x;
    }

    /** Some 400 calls at most, so that an object with 100 ahead of it stays within what is promised. */
    static String of(BumpsRiver x) {
        Answers answers = new Answers(x);
        answers.ofCrews();
        answers.tillNone(0, x::rows);
        answers.tillNone(0, x::result);
        answers.tillNone(1, x::verdict);
        answers.ofDays();
        answers.ofLanes();
        answers.ofWhatComesThen();
        return answers.all.toString();
    }

    private void ofCrews() {
        for (int i = 0; i < CREWS; i++) {
            int crew = i;
            if (!isNumber(add(() -> x.place(crew)))) {
                return;
            }
            add(() -> x.placeAnew(crew));
            for (int what = 0; what < 5; what++) {
                int asked = what;
                add(() -> x.bumps(crew, asked));
            }
            add(() -> x.rank(crew));
            add(() -> x.overtook(crew));
        }
    }

    private void tillNone(int first, IntUnaryOperator question) {
        for (int i = first; i <= PLACES; i++) {
            int place = i;
            String answer = add(() -> question.applyAsInt(place));
            if (!isNumber(answer) || answer.equals(NONE)) {
                return;
            }
        }
    }

    /** The whole chart of the last day that is over, and the heads of the others. */
    private void ofDays() {
        int over = 0;
        while (over < DAYS && isNumber(ofDay(over))) {
            over++;
        }
        int last = over - 1;
        tillNone(0, place -> x.chart(last, place));
    }

    private String ofDay(int day) {
        return add(() -> x.chart(day, 0));
    }

    private void ofLanes() {
        for (int i = 0; i < HEATS * 6; i++) {
            int heat = i / 6;
            int lane = i % 6 + 1;
            if (!isNumber(add(() -> x.lane(heat, lane)))) {
                return;
            }
        }
    }

    /** What no question tells: the round, the places of a division, how many are entered, and penalties. */
    private void ofWhatComesThen() {
        for (int i = 0; i < DIVISIONS && isNumber(add(x::end)); i++) {
            continue;
        }
        add(() -> x.division(5));
        add(x::begin);
        for (int i = 0; i < CREWS; i++) {
            int crew = i;
            if (!isNumber(add(() -> x.punish(crew, 1)))) {
                add(() -> x.head(crew));
            }
        }
        add(() -> x.seed(0));
        add(x::draw);
        add(() -> x.time(0, 999999));
        add(x::next);
        add(x::regatta);
        add(() -> x.crew(0, 20));
    }

    private String add(Check.Call call) {
        String answer;
        try {
            answer = Long.toString(call.answer());
        } catch (IllegalArgumentException | IllegalStateException | IndexOutOfBoundsException e) {
            answer = e.getClass().getSimpleName();
        }
        all.append(answer).append(' ');
        return answer;
    }

    private static boolean isNumber(String answer) {
        return !answer.endsWith("Exception");
    }
}
