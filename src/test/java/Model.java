import java.util.ArrayList;
import java.util.Arrays;
import java.util.Comparator;
import java.util.HashMap;
import java.util.List;
import java.util.Map;

/** The document once more, in lists and maps, and asked from what was kept: what runs are compared with. */
final class Model {
    private static final List<Integer> LANES = List.of(3, 4, 2, 5, 1, 6);

    private final List<int[]> crews = new ArrayList<>();

    private final List<Integer> chart = new ArrayList<>();
    private final List<List<Integer>> mornings = new ArrayList<>();
    private final List<List<Integer>> evenings = new ArrayList<>();
    private final List<int[]> lapses = new ArrayList<>();
    private final List<int[]> allBumps = new ArrayList<>();
    private final List<int[]> bumpsOfDivision = new ArrayList<>();
    private final List<Integer> starters = new ArrayList<>();
    private final List<Integer> rowing = new ArrayList<>();
    private final List<Integer> firstPlaces = new ArrayList<>();
    private int places = 5;
    private int division = -1;

    private final List<Integer> seeds = new ArrayList<>();
    private final List<List<Integer>> heats = new ArrayList<>();
    private final List<Integer> results = new ArrayList<>();
    private final Map<Integer, Integer> times = new HashMap<>();
    private int round = 0;

    private final List<Integer> order = new ArrayList<>();
    private final Map<Integer, Integer> finishes = new HashMap<>();
    private final Map<Integer, Integer> penalties = new HashMap<>();

    int crews() {
        return crews.size();
    }

    private static void index(boolean wrong) {
        if (wrong) {
            throw new IndexOutOfBoundsException();
        }
    }

    private static void argument(boolean wrong) {
        if (wrong) {
            throw new IllegalArgumentException();
        }
    }

    private static void state(boolean wrong) {
        if (wrong) {
            throw new IllegalStateException();
        }
    }

    private void noCrew(int crew) {
        index(crew < 0 || crew >= crews.size());
    }

    int crew(int sort, int age) {
        argument(sort < 0 || sort > 3 || age < 15 || age > 80);
        state(crews.size() == 24);
        crews.add(new int[] {sort, age});
        return crews.size() - 1;
    }

    int enter(int crew) {
        noCrew(crew);
        state(chart.contains(crew) || division >= 0);
        chart.add(crew);
        return chart.indexOf(crew);
    }

    int lapse(int crew) {
        noCrew(crew);
        state(!chart.contains(crew) || division >= 0);
        int place = chart.indexOf(crew);
        chart.remove((Integer) crew);
        lapses.add(new int[] {crew, evenings.size()});
        return place;
    }

    int division(int told) {
        argument(told < 3 || told > 8);
        state(division >= 0);
        int had = places;
        places = told;
        return had;
    }

    int begin() {
        state(division >= 0 || chart.size() < 2 || evenings.size() == 16);
        mornings.add(List.copyOf(chart));
        firstPlaces.clear();
        for (int place = 0; place < chart.size(); place += places) {
            if (place == 0 || chart.size() - place > 1) {
                firstPlaces.add(place);
            }
        }
        division = firstPlaces.size() - 1;
        lineUp();
        return firstPlaces.size();
    }

    private void lineUp() {
        int first = firstPlaces.get(division);
        boolean last = division == firstPlaces.size() - 1;
        starters.clear();
        starters.addAll(chart.subList(first, last ? chart.size() : firstPlaces.get(division + 1)));
        if (!last) {
            starters.add(chart.get(firstPlaces.get(division + 1)));
        }
        rowing.clear();
        rowing.addAll(starters);
        bumpsOfDivision.clear();
    }

    int contact(int crew) {
        noCrew(crew);
        state(division < 0 || rowing.indexOf(crew) < 1);
        int bumped = rowing.get(rowing.indexOf(crew) - 1);
        rowing.remove((Integer) crew);
        rowing.remove((Integer) bumped);
        boolean over = starters.get(starters.indexOf(crew) - 1) != bumped;
        bumpsOfDivision.add(new int[] {crew, bumped});
        allBumps.add(new int[] {crew, bumped, over ? 1 : 0});
        return bumped;
    }

    int end() {
        state(division < 0);
        List<Integer> before = List.copyOf(chart);
        for (int[] bump : bumpsOfDivision) {
            chart.set(before.indexOf(bump[0]), bump[1]);
            chart.set(before.indexOf(bump[1]), bump[0]);
        }
        division--;
        if (division >= 0) {
            lineUp();
        } else {
            evenings.add(List.copyOf(chart));
            starters.clear();
            rowing.clear();
        }
        return division;
    }

    int penal(int crew, int down) {
        noCrew(crew);
        argument(down < 1 || down > 5);
        state(!chart.contains(crew) || division >= 0);
        for (int i = 0; i < down; i++) {
            int place = chart.indexOf(crew);
            if (place < chart.size() - 1) {
                chart.set(place, chart.get(place + 1));
                chart.set(place + 1, crew);
            }
        }
        return chart.indexOf(crew);
    }

    int place(int crew) {
        noCrew(crew);
        return chart.indexOf(crew);
    }

    int rows(int place) {
        index(place < 0);
        return division >= 0 && place < starters.size() ? starters.get(place) : -1;
    }

    int chart(int day, int place) {
        index(day < 0 || day >= evenings.size() || place < 0);
        List<Integer> evening = evenings.get(day);
        return place < evening.size() ? evening.get(place) : -1;
    }

    int bumps(int crew, int what) {
        noCrew(crew);
        argument(what < 0 || what > 4);
        int count = 0;
        if (what > 2) {
            for (int year = 0; year < evenings.size() / 4; year++) {
                count += hasOars(crew, year, what == 3 ? -1 : 1) ? 1 : 0;
            }
            return count;
        }
        for (int[] bump : allBumps) {
            boolean counts = what == 0 ? bump[0] == crew
                    : what == 1 ? bump[1] == crew
                    : bump[0] == crew && bump[2] == 1;
            count += counts ? 1 : 0;
        }
        return count;
    }

    private boolean hasOars(int crew, int year, int sign) {
        for (int day = 4 * year; day < 4 * year + 4; day++) {
            int morning = mornings.get(day).indexOf(crew);
            int evening = evenings.get(day).indexOf(crew);
            if (morning < 0 || evening < 0 || Integer.signum(evening - morning) != sign) {
                return false;
            }
        }
        for (int[] lapse : lapses) {
            if (lapse[0] == crew && lapse[1] > 4 * year && lapse[1] < 4 * year + 4) {
                return false;
            }
        }
        return true;
    }

    int seed(int crew) {
        noCrew(crew);
        state(seeds.contains(crew) || round != 0);
        seeds.add(crew);
        return seeds.size();
    }

    int draw() {
        state(round != 0 || seeds.size() < 2);
        int count = (int) Math.ceil(seeds.size() / 6.0);
        for (int i = 0; i < count; i++) {
            heats.add(new ArrayList<>());
        }
        int heat = 0;
        int step = 1;
        for (int crew : seeds) {
            heats.get(heat).add(crew);
            if (heat + step < 0 || heat + step >= count) {
                step = -step;
            } else {
                heat += step;
            }
        }
        round = 1;
        return count;
    }

    int lane(int heat, int lane) {
        index(round == 0 || round == 3 || heat < 0 || heat >= heats.size() || lane < 1 || lane > 6);
        int rank = LANES.indexOf(lane);
        return rank < heats.get(heat).size() ? heats.get(heat).get(rank) : -1;
    }

    private Comparator<Integer> byTimes() {
        return Comparator.comparingInt((Integer crew) -> times.containsKey(crew) ? 0 : 1)
                .thenComparingInt(crew -> times.getOrDefault(crew, 0))
                .thenComparingInt(seeds::indexOf);
    }

    private List<Integer> ranked(List<Integer> some) {
        List<Integer> all = new ArrayList<>(some);
        all.sort(byTimes());
        return all;
    }

    int time(int crew, int time) {
        noCrew(crew);
        argument(time < 1 || time > 999999);
        for (List<Integer> heat : heats) {
            if (heat.contains(crew) && (round == 1 || round == 2)) {
                times.put(crew, time);
                return ranked(heat).indexOf(crew);
            }
        }
        throw new IllegalStateException();
    }

    int next() {
        state(round == 0 || round == 3);
        if (round == 2 || heats.size() == 1) {
            results.addAll(ranked(heats.get(0)));
            round = 3;
            return 3;
        }
        List<Integer> through = new ArrayList<>();
        List<Integer> rest = new ArrayList<>();
        int each = 6 / heats.size();
        for (List<Integer> heat : heats) {
            List<Integer> all = ranked(heat);
            through.addAll(all.subList(0, each));
            rest.addAll(all.subList(each, all.size()));
        }
        rest.removeIf(crew -> !times.containsKey(crew));
        rest.sort(byTimes());
        while (through.size() < 6 && !rest.isEmpty()) {
            through.add(rest.remove(0));
        }
        through.sort(byTimes());
        heats.clear();
        heats.add(through);
        times.clear();
        round = 2;
        return 2;
    }

    int regatta() {
        int was = round;
        seeds.clear();
        heats.clear();
        results.clear();
        times.clear();
        round = 0;
        return was;
    }

    int result(int place) {
        index(place < 0);
        state(round != 3);
        return place < results.size() ? results.get(place) : -1;
    }

    int verdict(int place) {
        index(place < 1);
        state(round != 3);
        if (place >= results.size()) {
            return -1;
        }
        Integer ahead = times.get(results.get(place - 1));
        Integer behind = times.get(results.get(place));
        return ahead == null || behind == null ? -1 : (int) Math.floor((behind - ahead) * 4 / 2500.0);
    }

    int head(int crew) {
        noCrew(crew);
        state(order.contains(crew));
        order.add(crew);
        return order.size() - 1;
    }

    private int counts(int crew) {
        int sort = crews.get(crew)[0];
        int handicap = Arrays.asList(0, 3000, 6000, 10000).get(sort);
        for (int age = 28; age <= crews.get(crew)[1]; age++) {
            handicap += 200;
        }
        return finishes.get(crew) - 15000 * order.indexOf(crew) - handicap
                + 1000 * penalties.getOrDefault(crew, 0);
    }

    int finish(int crew, int at) {
        noCrew(crew);
        argument(at < 1 || at > 9999999);
        state(!order.contains(crew) || at < 15000 * order.indexOf(crew));
        finishes.put(crew, at);
        return counts(crew);
    }

    int punish(int crew, int seconds) {
        noCrew(crew);
        argument(seconds < 1 || seconds > 60);
        state(!order.contains(crew) || penalties.getOrDefault(crew, 0) + seconds > 600);
        penalties.merge(crew, seconds, Integer::sum);
        return penalties.get(crew);
    }

    int rank(int crew) {
        noCrew(crew);
        if (!finishes.containsKey(crew)) {
            return -1;
        }
        int own = counts(crew);
        return (int) finishes.keySet().stream().filter(other -> counts(other) < own).count();
    }

    int overtook(int crew) {
        noCrew(crew);
        if (!finishes.containsKey(crew)) {
            return 0;
        }
        return (int) order.subList(0, order.indexOf(crew)).stream()
                .filter(other -> finishes.containsKey(other) && finishes.get(other) > finishes.get(crew))
                .count();
    }
}
