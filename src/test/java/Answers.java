/** All that can be asked of an object without a change to it, as one text. */
final class Answers {
    private Answers() {
    }

    static String of(BumpsRiver x) {
        StringBuilder all = new StringBuilder();
        for (int crew = 0; crew < 24; crew++) {
            ofCrew(x, crew, all);
        }
        for (int place = 0; place < 25; place++) {
            int asked = place;
            add(all, () -> x.rows(asked));
            add(all, () -> x.result(asked));
            add(all, () -> x.verdict(asked));
            for (int day = 0; day < 16; day++) {
                int asked2 = day;
                add(all, () -> x.chart(asked2, asked));
            }
        }
        for (int heat = 0; heat < 4; heat++) {
            for (int lane = 1; lane <= 6; lane++) {
                int inHeat = heat;
                int inLane = lane;
                add(all, () -> x.lane(inHeat, inLane));
            }
        }
        return all.toString();
    }

    private static void ofCrew(BumpsRiver x, int crew, StringBuilder all) {
        add(all, () -> x.place(crew));
        add(all, () -> x.placeAnew(crew));
        for (int what = 0; what < 5; what++) {
            int asked = what;
            add(all, () -> x.bumps(crew, asked));
        }
        add(all, () -> x.rank(crew));
        add(all, () -> x.overtook(crew));
    }

    private static void add(StringBuilder all, Check.Call call) {
        try {
            all.append(call.answer());
        } catch (IllegalArgumentException | IllegalStateException | IndexOutOfBoundsException e) {
            all.append(e.getClass().getSimpleName());
        }
        all.append(' ');
    }
}
