/**
 * Rowing: bumping races over days and years, regattas in lanes, and heads of the river.
 *
 * <p>The face tests the arguments and throws; the classes inside hold the state and never throw.
 */
public final class BumpsRiver {
    public static final int NONE = -1;
    public static final int ENTERING = 0, HEATS = 1, FINAL = 2, OVER = 3;

    private static final int MOST_CREWS = 24;
    private static final int LEAST_AGE = 15, MOST_AGE = 80;
    private static final int LEAST_DIVISION = 3, MOST_DIVISION = 8, FIRST_DIVISION = 5;
    private static final int MOST_DAYS = 16, DAYS_OF_YEAR = 4;
    private static final int MOST_PENAL = 5;
    private static final int MADE = 0, SUFFERED = 1, OVERBUMPS = 2, BLADES = 3, SPOONS = 4;

    /** As many as the calls of an object: crews that change their places stand for one contact. */
    private static final int MOST_EVENTS = 512;
    private static final int ENTERED = 0, LAPSED = 1, PUT_DOWN = 2, CHANGED = 3;

    private static final int LANES = 6, MOST_HEATS = 4;
    private static final int[] LANES_BY_RANK = {3, 4, 2, 5, 1, 6};
    private static final int MOST_TIME = 999999;
    /** Greater than every time, so that a crew without one is behind all that have one. */
    private static final int NO_TIME = 1000000;
    private static final int LENGTH = 2500, QUARTERS = 4;

    private static final int INTERVAL = 15000;
    private static final int MOST_FINISH = 9999999;
    private static final int NO_FINISH = 0;
    private static final int MOST_PENALTY = 60, MOST_PENALTIES = 600;
    private static final int SECOND = 1000;
    private static final int[] HANDICAPS = {0, 3000, 6000, 10000};
    private static final int FREE_AGE = 27, HANDICAP_OF_YEAR = 200;

    private final River river;
    private final Lake lake;
    private final HeadRace headRace;
    private int crews;

    public BumpsRiver() {
        river = new River();
        lake = new Lake();
        headRace = new HeadRace();
        crews = 0;
    }

    // ---- crews and the chart

    public int crew(int sort, int age) throws IllegalArgumentException, IllegalStateException {
        if (sort < 0 || sort >= HANDICAPS.length) {
            throw new IllegalArgumentException("no such class");
        }
        needRange(age, LEAST_AGE, MOST_AGE);
        if (crews >= MOST_CREWS) {
            throw new IllegalStateException("there are 24 crews");
        }
        int number = crews;
        headRace.tellHandicap(number, HANDICAPS[sort] + HANDICAP_OF_YEAR * Math.max(0, age - FREE_AGE));
        crews++;
        return number;
    }

    public int enter(int crew) throws IndexOutOfBoundsException, IllegalStateException {
        needCrew(crew);
        if (river.placeOf(crew) != NONE) {
            throw new IllegalStateException("the crew is in the chart");
        }
        needNoDay();
        river.change(ENTERED, crew, NONE);
        return river.placeOf(crew);
    }

    public int lapse(int crew) throws IndexOutOfBoundsException, IllegalStateException {
        needCrew(crew);
        needInChart(crew);
        needNoDay();
        int had = river.placeOf(crew);
        river.change(LAPSED, crew, NONE);
        return had;
    }

    public int division(int places) throws IllegalArgumentException, IllegalStateException {
        needRange(places, LEAST_DIVISION, MOST_DIVISION);
        needNoDay();
        return river.tellDivision(places);
    }

    public int begin() throws IllegalStateException {
        needNoDay();
        if (river.crewsInChart() < 2) {
            throw new IllegalStateException("fewer than 2 crews are in the chart");
        }
        if (river.daysOver() >= MOST_DAYS) {
            throw new IllegalStateException("there were 16 days");
        }
        return river.openDay();
    }

    public int contact(int crew) throws IndexOutOfBoundsException, IllegalStateException {
        needCrew(crew);
        int bumped = river.nearestAhead(crew);
        if (bumped == NONE) {
            throw new IllegalStateException("the crew does not row, or none rows ahead of it");
        }
        river.bump(crew, bumped);
        return bumped;
    }

    public int end() throws IllegalStateException {
        if (!river.dayIsOn()) {
            throw new IllegalStateException("no day is on");
        }
        return river.endDivision();
    }

    public int penal(int crew, int places)
            throws IndexOutOfBoundsException, IllegalArgumentException, IllegalStateException {
        needCrew(crew);
        needRange(places, 1, MOST_PENAL);
        needInChart(crew);
        needNoDay();
        river.change(PUT_DOWN, crew, places);
        return river.placeOf(crew);
    }

    public int place(int crew) throws IndexOutOfBoundsException {
        needCrew(crew);
        return river.placeOf(crew);
    }

    public int placeAnew(int crew) throws IndexOutOfBoundsException {
        needCrew(crew);
        return river.placeByHistory(crew);
    }

    public int rows(int place) throws IndexOutOfBoundsException {
        needPlace(place, 0);
        return river.starter(place);
    }

    public int chart(int day, int place) throws IndexOutOfBoundsException {
        if (day < 0 || day >= river.daysOver()) {
            throw new IndexOutOfBoundsException("that day is not over");
        }
        needPlace(place, 0);
        return river.crewAtEndOf(day, place);
    }

    public int bumps(int crew, int what) throws IndexOutOfBoundsException, IllegalArgumentException {
        needCrew(crew);
        needRange(what, MADE, SPOONS);
        return river.countOf(crew, what);
    }

    // ---- lanes

    public int seed(int crew) throws IndexOutOfBoundsException, IllegalStateException {
        needCrew(crew);
        if (lake.isEntered(crew)) {
            throw new IllegalStateException("the crew is entered");
        }
        needEntering();
        return lake.addSeed(crew);
    }

    public int draw() throws IllegalStateException {
        needEntering();
        if (lake.entered() < 2) {
            throw new IllegalStateException("fewer than 2 crews are entered");
        }
        return lake.drawHeats();
    }

    public int lane(int heat, int lane) throws IndexOutOfBoundsException {
        if (heat < 0 || heat >= lake.heatsOfRound()) {
            throw new IndexOutOfBoundsException("no such heat in this round");
        }
        if (lane < 1 || lane > LANES) {
            throw new IndexOutOfBoundsException("no such lane");
        }
        return lake.crewIn(heat, lane);
    }

    public int time(int crew, int time)
            throws IndexOutOfBoundsException, IllegalArgumentException, IllegalStateException {
        needCrew(crew);
        needRange(time, 1, MOST_TIME);
        if (!lake.races(crew)) {
            throw new IllegalStateException("the crew does not race in this round");
        }
        return lake.tellTime(crew, time);
    }

    public int next() throws IllegalStateException {
        if (lake.heatsOfRound() == 0) {
            throw new IllegalStateException("no crews race");
        }
        return lake.endRound();
    }

    public int regatta() {
        return lake.startAnew();
    }

    public int result(int place) throws IndexOutOfBoundsException, IllegalStateException {
        needPlace(place, 0);
        needOver();
        return lake.crewOfResults(place);
    }

    public int verdict(int place) throws IndexOutOfBoundsException, IllegalStateException {
        needPlace(place, 1);
        needOver();
        return lake.quartersBehind(place);
    }

    // ---- heads

    public int head(int crew) throws IndexOutOfBoundsException, IllegalStateException {
        needCrew(crew);
        if (headRace.holds(crew)) {
            throw new IllegalStateException("the crew is in the head");
        }
        return headRace.join(crew);
    }

    public int finish(int crew, int at)
            throws IndexOutOfBoundsException, IllegalArgumentException, IllegalStateException {
        needCrew(crew);
        needRange(at, 1, MOST_FINISH);
        needInHead(crew);
        if (at < headRace.beginning(crew)) {
            throw new IllegalStateException("the crew would finish ahead of its beginning");
        }
        return headRace.tellFinish(crew, at);
    }

    public int punish(int crew, int seconds)
            throws IndexOutOfBoundsException, IllegalArgumentException, IllegalStateException {
        needCrew(crew);
        needRange(seconds, 1, MOST_PENALTY);
        needInHead(crew);
        if (headRace.penaltiesOf(crew) + seconds > MOST_PENALTIES) {
            throw new IllegalStateException("the crew would have more than 600 seconds");
        }
        return headRace.addPenalty(crew, seconds);
    }

    public int rank(int crew) throws IndexOutOfBoundsException {
        needCrew(crew);
        return headRace.rankOf(crew);
    }

    public int overtook(int crew) throws IndexOutOfBoundsException {
        needCrew(crew);
        return headRace.overtakenBy(crew);
    }

    // ---- what calls need

    private void needCrew(int crew) {
        if (crew < 0 || crew >= crews) {
            throw new IndexOutOfBoundsException("no such crew");
        }
    }

    private static void needPlace(int place, int least) {
        if (place < least) {
            throw new IndexOutOfBoundsException("no such place");
        }
    }

    private static void needRange(int value, int least, int most) {
        if (value < least || value > most) {
            throw new IllegalArgumentException("out of range");
        }
    }

    private void needNoDay() {
        if (river.dayIsOn()) {
            throw new IllegalStateException("a day is on");
        }
    }

    private void needInChart(int crew) {
        if (river.placeOf(crew) == NONE) {
            throw new IllegalStateException("the crew is not in the chart");
        }
    }

    private void needEntering() {
        if (lake.roundNow() != ENTERING) {
            throw new IllegalStateException("the round is not ENTERING");
        }
    }

    private void needOver() {
        if (lake.roundNow() != OVER) {
            throw new IllegalStateException("the round is not OVER");
        }
    }

    private void needInHead(int crew) {
        if (!headRace.holds(crew)) {
            throw new IllegalStateException("the crew is not in the head");
        }
    }

    /** Numbers one behind the other, as many as there is room for; NONE behind the last one. */
    private static final class Row {
        private final int[] cells;
        private int count;

        Row(int room) {
            cells = new int[Math.max(0, room)];
            count = 0;
        }

        int size() {
            return count;
        }

        private boolean holds(int index) {
            return index >= 0 && index < count && index < cells.length;
        }

        int at(int index) {
            return holds(index) ? cells[index] : NONE;
        }

        int indexOf(int value) {
            for (int i = 0; i < count && i < cells.length; i++) {
                if (cells[i] == value) {
                    return i;
                }
            }
            return NONE;
        }

        void clear() {
            count = 0;
        }

        void append(int value) {
            insert(count, value);
        }

        void insert(int index, int value) {
            if (index < 0 || index > count || count >= cells.length) {
                return;
            }
            for (int i = count; i > index; i--) {
                cells[i] = cells[i - 1];
            }
            cells[index] = value;
            count++;
        }

        void removeAt(int index) {
            if (!holds(index)) {
                return;
            }
            for (int i = index; i + 1 < count && i + 1 < cells.length; i++) {
                cells[i] = cells[i + 1];
            }
            count--;
        }

        void exchange(int one, int other) {
            if (!holds(one) || !holds(other)) {
                return;
            }
            int kept = cells[one];
            cells[one] = cells[other];
            cells[other] = kept;
        }
    }

    /** A number for each index below a bound; all of them are blank at first. */
    private static final class Tally {
        private final int[] numbers;
        private final int blank;

        Tally(int bound, int blank) {
            this.numbers = new int[Math.max(0, bound)];
            this.blank = blank;
            for (int i = 0; i < numbers.length; i++) {
                numbers[i] = blank;
            }
        }

        int get(int index) {
            return index >= 0 && index < numbers.length ? numbers[index] : blank;
        }

        void put(int index, int number) {
            if (index >= 0 && index < numbers.length) {
                numbers[index] = number;
            }
        }

        void add(int index, int number) {
            put(index, get(index) + number);
        }

        void wipe() {
            for (int i = 0; i < numbers.length; i++) {
                numbers[i] = blank;
            }
        }
    }

    /** All that happened to the chart. */
    private static final class History {
        private final Row kinds;
        private final Row crewsOfEvents;
        private final Row details;
        private final Row anew;

        History() {
            kinds = new Row(MOST_EVENTS);
            crewsOfEvents = new Row(MOST_EVENTS);
            details = new Row(MOST_EVENTS);
            anew = new Row(MOST_CREWS);
        }

        void note(int kind, int crew, int detail) {
            kinds.append(kind);
            crewsOfEvents.append(crew);
            details.append(detail);
        }

        int placeOf(int crew) {
            anew.clear();
            for (int i = 0; i < kinds.size(); i++) {
                happen(anew, kinds.at(i), crewsOfEvents.at(i), details.at(i));
            }
            return anew.indexOf(crew);
        }

        /** The detail is how many places a crew is put down, or the crew that it changes with. */
        static void happen(Row order, int kind, int crew, int detail) {
            int at = order.indexOf(crew);
            switch (kind) {
                case ENTERED:
                    order.append(crew);
                    break;
                case LAPSED:
                    order.removeAt(at);
                    break;
                case PUT_DOWN:
                    order.removeAt(at);
                    order.insert(Math.min(at + detail, order.size()), crew);
                    break;
                case CHANGED:
                    order.exchange(at, order.indexOf(detail));
                    break;
                default:
                    break;
            }
        }
    }

    /** The division that races: those that began in it, foremost first, and their bumps. */
    private static final class Race {
        private final Row starters;
        private final Tally left;
        private final Tally prey;

        Race() {
            starters = new Row(MOST_CREWS);
            left = new Tally(MOST_CREWS, 0);
            prey = new Tally(MOST_CREWS, NONE);
        }

        void lineUp(Row order, int first, int most) {
            close();
            for (int place = first; place < first + most && place < order.size(); place++) {
                starters.append(order.at(place));
            }
        }

        void close() {
            starters.clear();
            left.wipe();
            prey.wipe();
        }

        int size() {
            return starters.size();
        }

        int starter(int index) {
            return starters.at(index);
        }

        boolean stillRows(int index) {
            return index != NONE && left.get(index) == 0;
        }

        int nearestAhead(int crew) {
            int from = starters.indexOf(crew);
            if (!stillRows(from)) {
                return NONE;
            }
            for (int i = from - 1; i >= 0; i--) {
                if (stillRows(i)) {
                    return starters.at(i);
                }
            }
            return NONE;
        }

        void bump(int crew, int bumped) {
            int behind = starters.indexOf(crew);
            int ahead = starters.indexOf(bumped);
            left.put(behind, 1);
            left.put(ahead, 1);
            prey.put(behind, bumped);
        }

        boolean beganRightAhead(int ahead, int crew) {
            return starters.indexOf(ahead) + 1 == starters.indexOf(crew);
        }

        int preyOf(int index) {
            return prey.get(index);
        }
    }

    /** Whose places got lesser, or greater, on each day of the year, and the years of which that held. */
    private static final class Years {
        private final Tally beginnings;
        private final Tally rose;
        private final Tally sank;
        private final Tally blades;
        private final Tally spoons;

        Years() {
            beginnings = new Tally(MOST_CREWS, NONE);
            rose = new Tally(MOST_CREWS, 0);
            sank = new Tally(MOST_CREWS, 0);
            blades = new Tally(MOST_CREWS, 0);
            spoons = new Tally(MOST_CREWS, 0);
        }

        void openDay(Row order, int day) {
            if (day % DAYS_OF_YEAR == 0) {
                openYear(order);
            }
            for (int place = 0; place < order.size(); place++) {
                beginnings.put(order.at(place), place);
            }
        }

        private void openYear(Row order) {
            for (int place = 0; place < order.size(); place++) {
                rose.put(order.at(place), 1);
                sank.put(order.at(place), 1);
            }
        }

        /** A crew that lapses was not in the chart all the while, even if it comes again in that year. */
        void forget(int crew) {
            rose.put(crew, 0);
            sank.put(crew, 0);
        }

        void closeDay(Row order, int day) {
            for (int place = 0; place < order.size(); place++) {
                int crew = order.at(place);
                if (place >= beginnings.get(crew)) {
                    rose.put(crew, 0);
                }
                if (place <= beginnings.get(crew)) {
                    sank.put(crew, 0);
                }
            }
            if (day % DAYS_OF_YEAR == DAYS_OF_YEAR - 1) {
                closeYear(order);
            }
        }

        private void closeYear(Row order) {
            for (int place = 0; place < order.size(); place++) {
                int crew = order.at(place);
                blades.add(crew, rose.get(crew));
                spoons.add(crew, sank.get(crew));
            }
        }

        int bladesOf(int crew) {
            return blades.get(crew);
        }

        int spoonsOf(int crew) {
            return spoons.get(crew);
        }
    }

    /** The chart, its days and divisions. */
    private static final class River {
        private final Row order;
        private final History history;
        private final Race race;
        private final Years years;
        private final Tally made;
        private final Tally suffered;
        private final Tally overbumps;
        private final Tally charts;
        private int placesOfDivision;
        private int racing;
        private int days;

        River() {
            order = new Row(MOST_CREWS);
            history = new History();
            race = new Race();
            years = new Years();
            made = new Tally(MOST_CREWS, 0);
            suffered = new Tally(MOST_CREWS, 0);
            overbumps = new Tally(MOST_CREWS, 0);
            charts = new Tally(MOST_DAYS * MOST_CREWS, NONE);
            placesOfDivision = FIRST_DIVISION;
            racing = NONE;
            days = 0;
        }

        int placeOf(int crew) {
            return order.indexOf(crew);
        }

        int placeByHistory(int crew) {
            return history.placeOf(crew);
        }

        int crewsInChart() {
            return order.size();
        }

        int daysOver() {
            return days;
        }

        boolean dayIsOn() {
            return racing != NONE;
        }

        void change(int kind, int crew, int detail) {
            History.happen(order, kind, crew, detail);
            history.note(kind, crew, detail);
            if (kind == LAPSED) {
                years.forget(crew);
            }
        }

        int tellDivision(int places) {
            int had = placesOfDivision;
            placesOfDivision = places;
            return had;
        }

        int openDay() {
            int divisions = divisionsOf(order.size(), placesOfDivision);
            racing = divisions - 1;
            years.openDay(order, days);
            lineUp();
            return divisions;
        }

        /** One place that would be left alone belongs to the division ahead. */
        private static int divisionsOf(int crews, int places) {
            if (places <= 0) {
                return 1;
            }
            int whole = crews / places;
            int left = crews % places;
            return Math.max(1, left > 1 ? whole + 1 : whole);
        }

        /** One crew more: the sandwich boat, or, in the last division, the place that would be left alone. */
        private void lineUp() {
            race.lineUp(order, racing * placesOfDivision, placesOfDivision + 1);
        }

        int starter(int index) {
            return race.starter(index);
        }

        int nearestAhead(int crew) {
            return race.nearestAhead(crew);
        }

        void bump(int crew, int bumped) {
            race.bump(crew, bumped);
            made.add(crew, 1);
            suffered.add(bumped, 1);
            if (!race.beganRightAhead(bumped, crew)) {
                overbumps.add(crew, 1);
            }
        }

        int endDivision() {
            for (int i = 0; i < race.size(); i++) {
                if (race.preyOf(i) != NONE) {
                    change(CHANGED, race.starter(i), race.preyOf(i));
                }
            }
            racing--;
            if (racing >= 0) {
                lineUp();
                return racing;
            }
            closeDay();
            return NONE;
        }

        private void closeDay() {
            racing = NONE;
            race.close();
            years.closeDay(order, days);
            for (int place = 0; place < order.size(); place++) {
                charts.put(days * MOST_CREWS + place, order.at(place));
            }
            days++;
        }

        int crewAtEndOf(int day, int place) {
            return place < MOST_CREWS ? charts.get(day * MOST_CREWS + place) : NONE;
        }

        int countOf(int crew, int what) {
            switch (what) {
                case MADE:
                    return made.get(crew);
                case SUFFERED:
                    return suffered.get(crew);
                case OVERBUMPS:
                    return overbumps.get(crew);
                case BLADES:
                    return years.bladesOf(crew);
                default:
                    return years.spoonsOf(crew);
            }
        }
    }

    /** A regatta on the lake. */
    private static final class Lake {
        private final Row seeds;
        private final Tally heatOf;
        private final Tally crewByLane;
        private final Tally times;
        private final Row chosen;
        private final Row others;
        private int heats;
        private int round;

        Lake() {
            seeds = new Row(MOST_CREWS);
            heatOf = new Tally(MOST_CREWS, NONE);
            crewByLane = new Tally(MOST_HEATS * LANES, NONE);
            times = new Tally(MOST_CREWS, NO_TIME);
            chosen = new Row(LANES);
            others = new Row(MOST_CREWS);
            heats = 0;
            round = ENTERING;
        }

        int roundNow() {
            return round;
        }

        int startAnew() {
            int was = round;
            seeds.clear();
            clearRound();
            heats = 0;
            round = ENTERING;
            return was;
        }

        private void clearRound() {
            heatOf.wipe();
            crewByLane.wipe();
            times.wipe();
        }

        int entered() {
            return seeds.size();
        }

        boolean isEntered(int crew) {
            return seeds.indexOf(crew) != NONE;
        }

        int addSeed(int crew) {
            seeds.append(crew);
            return seeds.size();
        }

        int heatsOfRound() {
            return round == HEATS || round == FINAL ? heats : 0;
        }

        int crewIn(int heat, int lane) {
            return crewByLane.get(heat * LANES + lane - 1);
        }

        boolean races(int crew) {
            return heatsOfRound() > 0 && heatOf.get(crew) != NONE;
        }

        /** Each passage over the heats gives one seed to each: its number is the rank in the heat. */
        int drawHeats() {
            heats = (seeds.size() + LANES - 1) / LANES;
            if (heats <= 0) {
                return 0;
            }
            for (int i = 0; i < seeds.size(); i++) {
                int passage = i / heats;
                int step = i % heats;
                putInLane(seeds.at(i), passage % 2 == 0 ? step : heats - 1 - step, passage);
            }
            round = HEATS;
            return heats;
        }

        private void putInLane(int crew, int heat, int rank) {
            if (rank < 0 || rank >= LANES_BY_RANK.length) {
                return;
            }
            heatOf.put(crew, heat);
            crewByLane.put(heat * LANES + LANES_BY_RANK[rank] - 1, crew);
        }

        int tellTime(int crew, int time) {
            times.put(crew, time);
            return placeInHeat(crew);
        }

        private boolean isAhead(int crew, int other) {
            int difference = times.get(crew) - times.get(other);
            return difference < 0
                    || difference == 0 && seeds.indexOf(crew) < seeds.indexOf(other);
        }

        private int placeInHeat(int crew) {
            int place = 0;
            for (int i = 0; i < seeds.size(); i++) {
                int other = seeds.at(i);
                if (heatOf.get(other) == heatOf.get(crew) && isAhead(other, crew)) {
                    place++;
                }
            }
            return place;
        }

        private void insertByTime(Row row, int crew) {
            int at = 0;
            while (at < row.size() && isAhead(row.at(at), crew)) {
                at++;
            }
            row.insert(at, crew);
        }

        int endRound() {
            if (round == HEATS && heats > 1) {
                chooseFinal();
                layFinal();
                round = FINAL;
            } else {
                rankResults();
                round = OVER;
            }
            return round;
        }

        private void chooseFinal() {
            chosen.clear();
            others.clear();
            int ofEachHeat = heats > 0 ? LANES / heats : 0;
            for (int i = 0; i < seeds.size(); i++) {
                int crew = seeds.at(i);
                if (placeInHeat(crew) < ofEachHeat) {
                    insertByTime(chosen, crew);
                } else if (times.get(crew) != NO_TIME) {
                    insertByTime(others, crew);
                }
            }
            for (int i = 0; i < others.size() && chosen.size() < LANES; i++) {
                insertByTime(chosen, others.at(i));
            }
        }

        private void layFinal() {
            clearRound();
            for (int rank = 0; rank < chosen.size(); rank++) {
                putInLane(chosen.at(rank), 0, rank);
            }
            heats = 1;
        }

        private void rankResults() {
            chosen.clear();
            for (int i = 0; i < seeds.size(); i++) {
                if (heatOf.get(seeds.at(i)) != NONE) {
                    insertByTime(chosen, seeds.at(i));
                }
            }
        }

        int crewOfResults(int place) {
            return chosen.at(place);
        }

        int quartersBehind(int place) {
            int ahead = times.get(chosen.at(place - 1));
            int behind = times.get(chosen.at(place));
            if (ahead == NO_TIME || behind == NO_TIME) {
                return NONE;
            }
            return (behind - ahead) * QUARTERS / LENGTH;
        }
    }

    /** A head of the river. */
    private static final class HeadRace {
        private final Row order;
        private final Tally handicaps;
        private final Tally finishes;
        private final Tally penalties;

        HeadRace() {
            order = new Row(MOST_CREWS);
            handicaps = new Tally(MOST_CREWS, 0);
            finishes = new Tally(MOST_CREWS, NO_FINISH);
            penalties = new Tally(MOST_CREWS, 0);
        }

        void tellHandicap(int crew, int handicap) {
            handicaps.put(crew, handicap);
        }

        boolean holds(int crew) {
            return order.indexOf(crew) != NONE;
        }

        int join(int crew) {
            order.append(crew);
            return order.indexOf(crew);
        }

        int beginning(int crew) {
            return INTERVAL * order.indexOf(crew);
        }

        int tellFinish(int crew, int at) {
            finishes.put(crew, at);
            return whatCounts(crew);
        }

        int penaltiesOf(int crew) {
            return penalties.get(crew);
        }

        int addPenalty(int crew, int seconds) {
            penalties.add(crew, seconds);
            return penalties.get(crew);
        }

        private boolean hasFinished(int crew) {
            return finishes.get(crew) != NO_FINISH;
        }

        private int whatCounts(int crew) {
            return finishes.get(crew) - beginning(crew) - handicaps.get(crew)
                    + SECOND * penalties.get(crew);
        }

        int rankOf(int crew) {
            if (!hasFinished(crew)) {
                return NONE;
            }
            int better = 0;
            for (int i = 0; i < order.size(); i++) {
                int other = order.at(i);
                if (hasFinished(other) && whatCounts(other) < whatCounts(crew)) {
                    better++;
                }
            }
            return better;
        }

        /** By when they finished on the water: handicaps and penalties do not move a crew there. */
        int overtakenBy(int crew) {
            if (!hasFinished(crew)) {
                return 0;
            }
            int overtaken = 0;
            int began = order.indexOf(crew);
            for (int i = 0; i < began; i++) {
                if (finishes.get(order.at(i)) > finishes.get(crew)) {
                    overtaken++;
                }
            }
            return overtaken;
        }
    }
}
