import java.util.Random;

/** Runs of calls, made from seeds, on the program and on the model: each answer is alike. */
public final class ModelTest {
    private static final String[] METHODS = {"crew", "enter", "lapse", "division", "begin", "contact", "end",
        "penal", "place", "placeAnew", "rows", "chart", "bumps", "seed", "draw", "lane", "time", "next",
        "regatta", "result", "verdict", "head", "finish", "punish", "rank", "overtook"};
    /** How often each is called, by what a run is about: the chart, the lake or the head. */
    private static final int[][] WEIGHTS = {
        {3, 6, 2, 2, 8, 60, 25, 4, 2, 3, 8, 5, 12, 0, 0, 0, 0, 0, 0, 0, 0, 0, 0, 0, 0, 0},
        {3, 0, 0, 0, 0, 0, 0, 0, 0, 0, 0, 0, 0, 20, 2, 12, 30, 2, 1, 6, 6, 0, 0, 0, 0, 0},
        {3, 0, 0, 0, 0, 0, 0, 0, 0, 0, 0, 0, 0, 0, 0, 0, 0, 0, 0, 0, 0, 6, 12, 8, 8, 8},
        {2, 3, 1, 1, 3, 10, 4, 1, 1, 1, 2, 2, 3, 4, 1, 3, 4, 1, 1, 2, 2, 2, 3, 2, 2, 2}};
    private static final int RUNS = 3000;
    private static final int CALLS = 512;

    private ModelTest() {
    }

    public static void main(String[] arguments) {
        Check check = new Check();
        for (int run = 0; run < RUNS; run++) {
            new Run(run, check).play();
        }
        check.close();
    }

    /** One run; its seed tells all of it. */
    private static final class Run {
        private final Random random;
        private final int[] weights;
        private final boolean wild;
        private final int number;
        private final Check check;
        private final BumpsRiver x = new BumpsRiver();
        private final Model model = new Model();

        Run(int number, Check check) {
            this.number = number;
            this.check = check;
            this.random = new Random(number);
            this.weights = WEIGHTS[number % WEIGHTS.length];
            this.wild = number % 5 == 0;
        }

        void play() {
            int first = 2 + random.nextInt(23);
            for (int i = 0; i < first; i++) {
                compare("crew", random.nextInt(4), 15 + random.nextInt(66));
            }
            for (int i = 0; i < first && weights[1] > 0; i++) {
                compare("enter", (i * 7 + number) % first, 0);
            }
            for (int i = 2 * first; i < CALLS; i++) {
                String method = choose();
                compare(method, firstArgument(method), secondArgument(method));
            }
        }

        private String choose() {
            int sum = 0;
            for (int weight : weights) {
                sum += weight;
            }
            int drawn = random.nextInt(sum);
            int i = 0;
            while (drawn >= weights[i]) {
                drawn -= weights[i];
                i++;
            }
            return METHODS[i];
        }

        private int around(int least, int most) {
            if (wild && random.nextInt(12) == 0) {
                int[] wilds = {Integer.MIN_VALUE, -1, least - 1, most + 1, Integer.MAX_VALUE};
                return wilds[random.nextInt(wilds.length)];
            }
            return least + random.nextInt(most - least + 1);
        }

        private int firstArgument(String method) {
            switch (method) {
                case "crew":
                    return around(0, 3);
                case "division":
                    return around(3, 8);
                case "rows":
                    return around(0, 9);
                case "chart":
                    return around(0, 3);
                case "lane":
                    return around(0, 3);
                case "result":
                    return around(0, 6);
                case "verdict":
                    return around(1, 6);
                case "contact":
                    return rower();
                default:
                    return around(0, Math.max(0, model.crews() - 1));
            }
        }

        /** Mostly a crew of the division that races, so that days get on. */
        private int rower() {
            int rower = model.rows(1 + random.nextInt(8));
            return rower >= 0 ? rower : around(0, Math.max(0, model.crews() - 1));
        }

        private int secondArgument(String method) {
            switch (method) {
                case "crew":
                    return around(15, 80);
                case "penal":
                    return around(1, 5);
                case "chart":
                    return around(0, 24);
                case "bumps":
                    return around(0, 4);
                case "lane":
                    return around(1, 6);
                case "time":
                    return random.nextInt(3) > 0 ? around(300000, 300005) : around(1, 999999);
                case "finish":
                    return random.nextInt(3) > 0 ? 500000 + 1000 * random.nextInt(9) : around(1, 9999999);
                case "punish":
                    return around(1, 60);
                default:
                    return 0;
            }
        }

        private void compare(String method, int one, int other) {
            String due = answer(() -> ofModel(method, one, other));
            String got = answer(() -> ofProgram(method, one, other));
            if (!due.equals(got)) {
                System.out.println("run " + number + ": " + method + "(" + one + ", " + other + "): "
                        + got + ", due is " + due);
            }
            check.due("run " + number, due.equals(got));
        }

        private static String answer(Check.Call call) {
            try {
                return "answered " + call.answer();
            } catch (RuntimeException e) {
                return e.getClass().getName();
            }
        }

        private int ofModel(String method, int one, int other) {
            switch (method) {
                case "crew": return model.crew(one, other);
                case "enter": return model.enter(one);
                case "lapse": return model.lapse(one);
                case "division": return model.division(one);
                case "begin": return model.begin();
                case "contact": return model.contact(one);
                case "end": return model.end();
                case "penal": return model.penal(one, other);
                case "place": return model.place(one);
                case "placeAnew": return model.place(one);
                case "rows": return model.rows(one);
                case "chart": return model.chart(one, other);
                case "bumps": return model.bumps(one, other);
                case "seed": return model.seed(one);
                case "draw": return model.draw();
                case "lane": return model.lane(one, other);
                case "time": return model.time(one, other);
                case "next": return model.next();
                case "regatta": return model.regatta();
                case "result": return model.result(one);
                case "verdict": return model.verdict(one);
                case "head": return model.head(one);
                case "finish": return model.finish(one, other);
                case "punish": return model.punish(one, other);
                case "rank": return model.rank(one);
                default: return model.overtook(one);
            }
        }

        private int ofProgram(String method, int one, int other) {
            return Calls.call(x, method, one, other);
        }
    }
}
