/** Edges of crews and the chart. */
final class ChartEdges {
    private static final int NONE = BumpsRiver.NONE;

    private ChartEdges() {
    }

    /** Seven of the eight crews in the chart, divisions of three places. */
    private static BumpsRiver river() {
        BumpsRiver x = Scenes.withCrews(8);
        for (int crew = 0; crew < 7; crew++) {
            x.enter(crew);
        }
        x.division(3);
        return x;
    }

    /** The same, and the last one of both divisions races: 3 4 5 6. */
    private static BumpsRiver riverOnADay() {
        BumpsRiver x = river();
        x.begin();
        return x;
    }

    /** The same, and crew 5 has bumped crew 4. */
    private static BumpsRiver riverAfterABump() {
        BumpsRiver x = riverOnADay();
        x.contact(5);
        return x;
    }

    private static BumpsRiver fullRiver(int places) {
        return Scenes.withChart(24, places);
    }

    // ---- ahead of the promises

    @Says(promise = 0, words = "An object is used for at most 512 calls after it has been made")
    static void chartAtTheLastCalls(Check check) {
        BumpsRiver x = Scenes.withCrews(2);
        x.enter(0);
        x.enter(1);
        for (int i = 0; i < 505; i++) {
            x.penal(i % 2, 1);
        }
        check.due("call 510", 1, x.place(0));
        check.due("call 511", 1, x.placeAnew(0));
        check.due("call 512", 0, x.placeAnew(1));
    }

    @Says(promise = 0, words = "An object is used for at most 512 calls after it has been made")
    static void asManyBumpsAsThereCanBe(Check check) {
        BumpsRiver x = fullRiver(8);
        int bumps = 0;
        for (int day = 0; day < 16; day++) {
            x.begin();
            for (int division = 2; division != NONE; division = x.end()) {
                int last = division == 2 ? 7 : 8;
                for (int place = last; place > 0; place -= 2) {
                    x.contact(x.rows(place));
                    bumps++;
                }
            }
        }
        check.due("bumps", 192, bumps);
        for (int place = 0; place < 7; place++) {
            int crew = x.chart(15, place);
            check.due("place of " + crew, place, x.placeAnew(crew));
        }
    }

    @Says(promise = 0, words = "A call that throws changes nothing.")
    static void manyRefusedCalls(Check check) {
        BumpsRiver x = riverAfterABump();
        Check.Call[] calls = {() -> x.crew(4, 20), () -> x.crew(0, 14), () -> x.enter(7), () -> x.enter(8),
            () -> x.lapse(0), () -> x.lapse(7), () -> x.division(4), () -> x.division(9), x::begin,
            () -> x.contact(5), () -> x.contact(4), () -> x.contact(3), () -> x.contact(0), () -> x.contact(8),
            () -> x.penal(0, 1), () -> x.penal(7, 1), () -> x.penal(0, 6), () -> x.rows(-1), () -> x.chart(0, 0),
            () -> x.bumps(0, 5), x::draw, x::next, () -> x.lane(0, 1), () -> x.time(0, 1), () -> x.result(0),
            () -> x.verdict(1), () -> x.finish(0, 1), () -> x.punish(0, 1)};
        for (int i = 0; i < calls.length; i++) {
            int number = i;
            try {
                calls[number].answer();
                check.due("call " + number + " is refused", false);
            } catch (IllegalArgumentException | IllegalStateException | IndexOutOfBoundsException e) {
                continue;
            }
        }
        check.due("as if none had been made", Answers.of(riverAfterABump()).equals(Answers.of(x)));
    }

    @Says(promise = 0, words = "Crews are numbered from 0, at most 24")
    static void numbersOfCrews(Check check) {
        BumpsRiver x = new BumpsRiver();
        for (int crew = 0; crew < 24; crew++) {
            check.due("number", crew, x.crew(crew % 4, 15 + crew));
        }
        check.due("the last number", NONE, x.place(23));
        check.fails("number 24", Check.INDEX, () -> x.place(24));
    }

    @Says(promise = 0, words = "a crew is of a class, 0 to 3, and an age, 15 to 80")
    static void classesAndAges(Check check) {
        int told = 0;
        BumpsRiver x = new BumpsRiver();
        for (int sort = 0; sort <= 3; sort++) {
            check.due("class " + sort + ", the least age", told++, x.crew(sort, 15));
            check.due("class " + sort + ", the greatest age", told++, x.crew(sort, 80));
        }
    }

    @Says(promise = 0, words = "The chart has crews by places, from 0, the head, on.")
    static void headOfTheChart(Check check) {
        BumpsRiver x = Scenes.withCrews(2);
        check.due("the first place", 0, x.enter(1));
        check.due("the next one", 1, x.enter(0));
        Scenes.emptyDay(x);
        check.due("the head", 1, x.chart(0, 0));
    }

    @Says(promise = 0, words = "Between days crews enter at its end, and lapse, those behind going one up.")
    static void crewsComeAndGo(Check check) {
        BumpsRiver x = fullRiver(8);
        check.due("the head lapses", 0, x.lapse(0));
        check.due("the last one lapses", 22, x.lapse(23));
        check.due("one between lapses", 10, x.lapse(11));
        check.due("ahead of it nothing moved", 9, x.place(10));
        check.due("behind it they went up", 10, x.place(12));
        check.due("at the end", 21, x.enter(0));
        check.due("at the end, once more", 22, x.enter(11));
        check.due("full again", 23, x.enter(23));
    }

    @Says(promise = 0, words = "A division has 5 places at first")
    static void placesAtFirst(Check check) {
        BumpsRiver x = Scenes.withCrews(7);
        for (int crew = 0; crew < 7; crew++) {
            x.enter(crew);
        }
        check.due("divisions", 2, x.begin());
        check.rowsAre("the last one", x, 5, 6);
    }

    @Says(promise = 0, words = "as many as are told, 3 to 8, from the next day on")
    static void placesFromTheNextDayOn(Check check) {
        BumpsRiver x = fullRiver(8);
        check.due("eight", 3, x.begin());
        Scenes.endDay(x);
        x.division(3);
        check.due("three", 8, x.begin());
        Scenes.endDay(x);
        check.due("three still", 8, x.begin());
        Scenes.endDay(x);
        x.division(8);
        x.division(6);
        check.due("the one told last", 4, x.begin());
    }

    @Says(promise = 0, words = "the last one has what is left, at least 2")
    static void twoAreLeft(Check check) {
        for (int places = 3; places <= 8; places++) {
            BumpsRiver x = Scenes.withChart(places + 2, places);
            check.due("divisions", 2, x.begin());
            check.rowsAre("the last one of " + places, x, places, places + 1);
        }
    }

    @Says(promise = 0, words = "if just one place would be left, it belongs to the division ahead")
    static void oneIsLeft(Check check) {
        for (int places = 3; places <= 8; places++) {
            BumpsRiver one = Scenes.withChart(places + 1, places);
            check.due("one division", 1, one.begin());
            check.due("it has the place: " + places, places, one.rows(places));
            check.due("and none more", NONE, one.rows(places + 1));
            BumpsRiver two = Scenes.withChart(2 * places + 1, places);
            check.due("two divisions", 2, two.begin());
            check.due("the last one has the place: " + places, 2 * places, two.rows(places));
            two.end();
            check.due("the first one has the sandwich boat", places, two.rows(places));
            check.due("and none more", NONE, two.rows(places + 1));
        }
    }

    @Says(promise = 0, words = "the places from 0 on, division by division")
    static void allSizes(Check check) {
        for (int places = 3; places <= 8; places++) {
            for (int crews = 2; crews <= 24; crews++) {
                int divisions = 0;
                for (int first = 0; first == 0 || crews - first > 1; first += places) {
                    divisions++;
                }
                BumpsRiver x = Scenes.withChart(crews, places);
                check.due(crews + " crews, " + places + " places", divisions, x.begin());
                check.due("the first one of the last division", (divisions - 1) * places, x.rows(0));
                check.due("its last one", crews - 1, x.rows(crews - 1 - (divisions - 1) * places));
            }
        }
    }

    @Says(promise = 0, words = "A day can begin, if the chart has 2 crews or more.")
    static void twoCrewsAreEnough(Check check) {
        BumpsRiver x = Scenes.withCrews(3);
        x.enter(2);
        x.enter(0);
        check.due("a day of two", 1, x.begin());
        check.rowsAre("both", x, 2, 0);
        check.due("it ends", NONE, x.end());
    }

    @Says(promise = 0, words = "On it the divisions race one after the other, the last one first.")
    static void lastDivisionFirst(Check check) {
        BumpsRiver x = fullRiver(3);
        check.due("divisions", 8, x.begin());
        for (int division = 7; division > 0; division--) {
            check.due("the first place of " + division, 3 * division, x.rows(0));
            check.due("then", division - 1, x.end());
        }
        check.due("the first one is the last", NONE, x.end());
    }

    @Says(promise = 0, words = "but in the last one, the sandwich boat behind them")
    static void noSandwichBoatInTheLastOne(Check check) {
        BumpsRiver one = Scenes.withChart(5, 5);
        one.begin();
        check.rowsAre("one division", one, 0, 1, 2, 3, 4);
        BumpsRiver two = Scenes.withChart(6, 3);
        two.begin();
        check.rowsAre("the last one of two", two, 3, 4, 5);
        two.end();
        check.rowsAre("the first one of two", two, 0, 1, 2, 3);
    }

    @Says(promise = 0, words = "the crew that is at the first place of the division that has just raced")
    static void sandwichBoatByTheEndOfTheDivision(Check check) {
        BumpsRiver x = Scenes.withChart(9, 3);
        x.begin();
        x.contact(7);
        x.end();
        check.rowsAre("the one that bumped the first", x, 3, 4, 5, 7);
        x.contact(5);
        x.end();
        check.rowsAre("the first one that was not bumped", x, 0, 1, 2, 3);
    }

    @Says(promise = 0, words = "the crew that is at the first place of the division that has just raced")
    static void sandwichBoatOnceMore(Check check) {
        BumpsRiver x = Scenes.withChart(9, 3);
        x.begin();
        x.end();
        x.contact(5);
        check.due("the sandwich boat bumps the first one", 3, x.contact(6));
        x.end();
        check.rowsAre("it rows once more", x, 0, 1, 2, 6);
        check.due("and bumps", 2, x.contact(6));
    }

    @Says(promise = 0, words = "A contact is made by a crew that rows still")
    static void crewsThatLeft(Check check) {
        BumpsRiver x = Scenes.withChart(6, 8);
        x.begin();
        x.contact(2);
        check.fails("one that bumped", Check.STATE, () -> x.contact(2));
        x.contact(4);
        check.fails("one that was bumped", Check.STATE, () -> x.contact(3));
        check.due("one that rows still", 0, x.contact(5));
    }

    @Says(promise = 0, words = "it bumps the nearest one ahead of it that rows still")
    static void nearestThatRows(Check check) {
        BumpsRiver x = Scenes.withChart(6, 8);
        x.begin();
        check.due("right ahead", 2, x.contact(3));
        check.due("behind two that left", 1, x.contact(4));
        check.due("behind four that left", 0, x.contact(5));
    }

    @Says(promise = 0, words = "which counts at once; both leave")
    static void countsAtOnce(Check check) {
        BumpsRiver x = Scenes.withChart(3, 8);
        x.begin();
        x.contact(1);
        check.due("made", 1, x.bumps(1, 0));
        check.due("suffered", 1, x.bumps(0, 1));
        check.due("places are as they were", 1, x.place(1));
        check.fails("none ahead is left", Check.STATE, () -> x.contact(2));
    }

    @Says(promise = 0, words = "each crew that bumped and the one that it bumped change their places of the chart")
    static void placesChangeAtTheEnd(Check check) {
        BumpsRiver none = Scenes.withChart(4, 8);
        Scenes.emptyDay(none);
        check.chartIs("no bump", none, 0, 1, 2, 3);
        BumpsRiver all = Scenes.withChart(8, 8);
        all.begin();
        for (int crew = 4; crew < 8; crew++) {
            all.contact(crew);
        }
        check.chartIs("not yet", all, 0, 1, 2, 3, 4, 5, 6, 7);
        all.end();
        check.chartIs("the first with the last one", all, 7, 6, 5, 4, 3, 2, 1, 0);
    }

    @Says(promise = 0, words = "each crew that bumped and the one that it bumped change their places of the chart")
    static void placesChangeBetweenDivisions(Check check) {
        BumpsRiver x = Scenes.withChart(6, 3);
        x.begin();
        x.end();
        check.due("the sandwich boat", 2, x.contact(3));
        check.chartIs("not yet", x, 0, 1, 2, 3, 4, 5);
        x.end();
        check.chartIs("at the end", x, 0, 1, 3, 2, 4, 5);
    }

    @Says(promise = 0, words = "With the end of the division 0 the day is over.")
    static void dayIsOver(Check check) {
        BumpsRiver x = Scenes.withChart(6, 3);
        x.begin();
        x.end();
        check.fails("not yet", Check.INDEX, () -> x.chart(0, 0));
        x.end();
        check.due("it is", 0, x.chart(0, 0));
        check.due("the chart can change", 5, x.lapse(5));
    }

    @Says(promise = 0, words = "An overbump is a bump of a crew that began not right ahead.")
    static void overbumps(Check check) {
        BumpsRiver x = Scenes.withChart(7, 3);
        x.begin();
        x.contact(5);
        x.contact(6);
        check.due("right ahead", 0, x.bumps(5, 2));
        check.due("one between them", 1, x.bumps(6, 2));
        x.end();
        x.contact(2);
        x.contact(6);
        check.due("the sandwich boat too", 2, x.bumps(6, 2));
        check.due("they are bumps", 2, x.bumps(6, 0));
    }

    @Says(promise = 0, words = "or to the last one, those between going one up")
    static void penalBumpOfTheHead(Check check) {
        BumpsRiver x = Scenes.withChart(6, 8);
        check.due("just to the last place", 5, x.penal(0, 5));
        check.chartIs("all went up", x, 1, 2, 3, 4, 5, 0);
        check.due("one place short of it", 5, x.penal(2, 5));
        check.chartIs("those between went up", x, 1, 3, 4, 5, 0, 2);
        check.due("the last one", 5, x.penal(2, 5));
        check.chartIs("none went up", x, 1, 3, 4, 5, 0, 2);
        check.due("one place", 1, x.penal(1, 1));
        check.chartIs("one went up", x, 3, 1, 4, 5, 0, 2);
    }

    @Says(promise = 0, words = "Four days are a year.")
    static void fourDaysAreAYear(Check check) {
        BumpsRiver x = Scenes.withChart(16, 8);
        Scenes.risingDays(x, 15, 3);
        check.due("three days", 0, x.bumps(15, 3));
        x.begin();
        x.contact(15);
        x.end();
        check.due("the fourth is not over", 0, x.bumps(15, 3));
        x.end();
        check.due("four days", 1, x.bumps(15, 3));
    }

    @Says(promise = 0, words = "Four days are a year.")
    static void fourYears(Check check) {
        BumpsRiver x = Scenes.withChart(2, 8);
        for (int day = 0; day < 16; day++) {
            check.due("blades ahead of day " + day, day / 4, x.bumps(1, 3));
            check.due("spoons ahead of day " + day, day / 4, x.bumps(0, 4));
            Scenes.risingDay(x, 1);
            x.penal(1, 1);
        }
        check.due("four blades", 4, x.bumps(1, 3));
        check.due("four spoons", 4, x.bumps(0, 4));
        check.due("no spoons", 0, x.bumps(1, 4));
        check.due("no blades", 0, x.bumps(0, 3));
    }

    @Says(promise = 0, words = "Four days are a year.")
    static void fourDaysOfTwoYears(Check check) {
        BumpsRiver x = Scenes.withChart(16, 8);
        Scenes.emptyDays(x, 2);
        Scenes.risingDays(x, 15, 4);
        Scenes.emptyDays(x, 2);
        check.due("no year of them", 0, x.bumps(15, 3));
    }

    @Says(promise = 0, words = "from the beginning of the first to the end of the last, between them too")
    static void outForAMoment(Check check) {
        for (int day = 0; day <= 4; day++) {
            BumpsRiver x = Scenes.withChart(16, 8);
            Scenes.risingDays(x, 15, day);
            x.lapse(15);
            x.enter(15);
            Scenes.risingDays(x, 15, 4 - day);
            check.due("out ahead of day " + day, day == 0 || day == 4 ? 1 : 0, x.bumps(15, 3));
        }
    }

    @Says(promise = 0, words = "from the beginning of the first to the end of the last, between them too")
    static void sinkingCrewOutForAMoment(Check check) {
        for (int day = 0; day <= 4; day++) {
            BumpsRiver x = Scenes.withChart(2, 8);
            for (int i = 0; i <= 4; i++) {
                if (i == day) {
                    x.lapse(0);
                    x.enter(0);
                    x.penal(1, x.place(0));
                }
                if (i < 4) {
                    Scenes.risingDay(x, 1);
                    x.penal(1, 1);
                }
            }
            check.due("out ahead of day " + day, day == 0 || day == 4 ? 1 : 0, x.bumps(0, 4));
        }
    }

    @Says(promise = 0, words = "from the beginning of the first to the end of the last, between them too")
    static void enteredLater(Check check) {
        for (int day = 0; day < 4; day++) {
            BumpsRiver x = Scenes.withCrews(9);
            for (int crew = 0; crew < 8; crew++) {
                x.enter(crew);
            }
            x.division(8);
            Scenes.emptyDays(x, day);
            x.enter(8);
            Scenes.risingDays(x, 8, 4);
            check.due("entered ahead of day " + day, day == 0 ? 1 : 0, x.bumps(8, 3));
        }
    }

    @Says(promise = 0, words = "from the beginning of the first to the end of the last, between them too")
    static void sinkingCrewEnteredLater(Check check) {
        for (int day = 0; day < 4; day++) {
            BumpsRiver x = Scenes.withCrews(3);
            x.enter(1);
            x.enter(2);
            Scenes.emptyDays(x, day);
            x.enter(0);
            x.lapse(2);
            for (int i = day; i < 4; i++) {
                x.penal(1, 1);
                Scenes.risingDay(x, 1);
            }
            check.due("entered ahead of day " + day, day == 0 ? 1 : 0, x.bumps(0, 4));
        }
    }

    @Says(promise = 0, words = "was at the end of each at a lesser place than at its beginning, has blades")
    static void oneDayWithoutABump(Check check) {
        for (int day = 0; day < 4; day++) {
            BumpsRiver x = Scenes.withChart(16, 8);
            Scenes.risingDays(x, 15, day);
            Scenes.emptyDay(x);
            Scenes.risingDays(x, 15, 3 - day);
            check.due("no bump on day " + day, 0, x.bumps(15, 3));
        }
    }

    @Says(promise = 0, words = "was at the end of each at a lesser place than at its beginning, has blades")
    static void headThatStays(Check check) {
        BumpsRiver x = Scenes.withChart(3, 8);
        Scenes.emptyDays(x, 4);
        for (int crew = 0; crew < 3; crew++) {
            check.due("blades of one that stays", 0, x.bumps(crew, 3));
            check.due("spoons of one that stays", 0, x.bumps(crew, 4));
        }
    }

    @Says(promise = 0, words = "spoons, at a greater one on each.")
    static void oneDayNotBumped(Check check) {
        for (int day = 0; day < 4; day++) {
            BumpsRiver x = Scenes.withChart(2, 8);
            for (int i = 0; i < 4; i++) {
                if (i == day) {
                    Scenes.emptyDay(x);
                } else {
                    Scenes.risingDay(x, 1);
                    x.penal(1, 1);
                }
            }
            check.due("not bumped on day " + day, 0, x.bumps(0, 4));
        }
    }

    // ---- 1: a new object

    @Says(promise = 1, words = "No crews.")
    static void noCrews(Check check) {
        check.refusedForNoCrew(BumpsRiver::new, 0, BumpsRiver::place);
        check.refusedForNoCrew(BumpsRiver::new, 0, BumpsRiver::enter);
        check.refusedForNoCrew(BumpsRiver::new, 0, BumpsRiver::seed);
        check.refusedForNoCrew(BumpsRiver::new, 0, BumpsRiver::head);
        check.refused("no day", Check.STATE, BumpsRiver::new, BumpsRiver::begin);
        check.refused("no heats", Check.STATE, BumpsRiver::new, BumpsRiver::draw);
        check.due("the first one", 0, new BumpsRiver().crew(0, 20));
    }

    // ---- 2: crew

    @Says(promise = 2, words = "its class, 0 to 3")
    static void classOutOfRange(Check check) {
        for (int sort : new int[] {-1, 4, Integer.MIN_VALUE, Integer.MAX_VALUE}) {
            check.refused("class " + sort, Check.ARGUMENT, BumpsRiver::new, x -> x.crew(sort, 20));
        }
    }

    @Says(promise = 2, words = "15 to 80")
    static void ageOutOfRange(Check check) {
        for (int age : new int[] {14, 81, -1, 0, Integer.MIN_VALUE, Integer.MAX_VALUE}) {
            check.refused("age " + age, Check.ARGUMENT, BumpsRiver::new, x -> x.crew(3, age));
        }
    }

    @Says(promise = 2, words = "Throws `IllegalStateException` if there are 24")
    static void oneCrewMore(Check check) {
        check.due("the last one", 23, Scenes.withCrews(23).crew(3, 80));
        check.refused("one more", Check.STATE, () -> Scenes.withCrews(24), x -> x.crew(0, 20));
        check.refused("of no class", Check.ARGUMENT, () -> Scenes.withCrews(24), x -> x.crew(4, 20));
        check.refused("of no age", Check.ARGUMENT, () -> Scenes.withCrews(24), x -> x.crew(0, 14));
    }

    // ---- 3: enter

    @Says(promise = 3, words = "Throws `IndexOutOfBoundsException` if there is no such crew")
    static void enterNoCrew(Check check) {
        check.refusedForNoCrew(ChartEdges::river, 8, BumpsRiver::enter);
        check.refusedForNoCrew(ChartEdges::riverOnADay, 8, BumpsRiver::enter);
    }

    @Says(promise = 3, words = "if it is in it, or a day is on")
    static void enterTwice(Check check) {
        check.refused("the head", Check.STATE, ChartEdges::river, x -> x.enter(0));
        check.refused("the last one", Check.STATE, ChartEdges::river, x -> x.enter(6));
    }

    @Says(promise = 3, words = "if it is in it, or a day is on")
    static void enterOnADay(Check check) {
        check.refused("not in the chart", Check.STATE, ChartEdges::riverOnADay, x -> x.enter(7));
        check.refused("in the chart", Check.STATE, ChartEdges::riverOnADay, x -> x.enter(6));
        BumpsRiver x = riverOnADay();
        x.end();
        check.fails("in the day's last division", Check.STATE, () -> x.enter(7));
        x.end();
        check.due("the day is over", 7, x.enter(7));
    }

    @Says(promise = 3, words = "Returns its place.")
    static void enterEmptyAndFull(Check check) {
        BumpsRiver x = Scenes.withCrews(24);
        for (int place = 0; place < 24; place++) {
            check.due("place", place, x.enter(23 - place));
        }
    }

    // ---- 4: lapse

    @Says(promise = 4, words = "Throws `IndexOutOfBoundsException` if there is no such crew")
    static void lapseNoCrew(Check check) {
        check.refusedForNoCrew(ChartEdges::river, 8, BumpsRiver::lapse);
        check.refusedForNoCrew(ChartEdges::riverOnADay, 8, BumpsRiver::lapse);
    }

    @Says(promise = 4, words = "if it is not in the chart, or a day is on")
    static void lapseTwice(Check check) {
        check.refused("never entered", Check.STATE, ChartEdges::river, x -> x.lapse(7));
        BumpsRiver x = river();
        x.lapse(3);
        check.fails("lapsed", Check.STATE, () -> x.lapse(3));
        check.refused("an empty chart", Check.STATE, () -> Scenes.withCrews(1), y -> y.lapse(0));
    }

    @Says(promise = 4, words = "if it is not in the chart, or a day is on")
    static void lapseOnADay(Check check) {
        check.refused("in the chart", Check.STATE, ChartEdges::riverOnADay, x -> x.lapse(0));
        check.refused("it rows", Check.STATE, ChartEdges::riverOnADay, x -> x.lapse(6));
        check.refused("not in the chart", Check.STATE, ChartEdges::riverOnADay, x -> x.lapse(7));
    }

    @Says(promise = 4, words = "Returns the place that it had.")
    static void lapseTillNoneIsLeft(Check check) {
        BumpsRiver x = Scenes.withChart(3, 8);
        check.due("the last one", 2, x.lapse(2));
        check.due("the head", 0, x.lapse(0));
        check.due("the only one", 0, x.lapse(1));
        check.due("none is left", NONE, x.place(1));
        check.due("an empty chart is entered", 0, x.enter(2));
    }

    // ---- 5: division

    @Says(promise = 5, words = "3 to 8")
    static void placesOutOfRange(Check check) {
        for (int places : new int[] {2, 9, 0, -1, 1, Integer.MIN_VALUE, Integer.MAX_VALUE}) {
            check.refused(places + " places", Check.ARGUMENT, ChartEdges::river, x -> x.division(places));
            check.refused(places + " places on a day", Check.ARGUMENT, ChartEdges::riverOnADay,
                    x -> x.division(places));
        }
    }

    @Says(promise = 5, words = "Throws `IllegalStateException` if a day is on")
    static void divisionOnADay(Check check) {
        check.refused("3 places", Check.STATE, ChartEdges::riverOnADay, x -> x.division(3));
        check.refused("8 places", Check.STATE, ChartEdges::riverOnADay, x -> x.division(8));
        BumpsRiver x = riverOnADay();
        x.end();
        check.fails("in division 0", Check.STATE, () -> x.division(8));
        x.end();
        check.due("the day is over", 3, x.division(8));
    }

    @Says(promise = 5, words = "Returns how many it had, as told.")
    static void placesAsTold(Check check) {
        BumpsRiver x = new BumpsRiver();
        check.due("at first", 5, x.division(3));
        check.due("the least", 3, x.division(8));
        check.due("the most", 8, x.division(8));
        check.due("the same", 8, x.division(5));
    }

    // ---- 6: begin

    @Says(promise = 6, words = "if one is on, the chart has fewer than 2 crews, or there were 16 days")
    static void beginOnADay(Check check) {
        check.refused("the last division races", Check.STATE, ChartEdges::riverOnADay, BumpsRiver::begin);
        BumpsRiver x = riverAfterABump();
        x.end();
        check.fails("division 0 races", Check.STATE, x::begin);
        check.rowsAre("it races on", x, 0, 1, 2, 3);
    }

    @Says(promise = 6, words = "if one is on, the chart has fewer than 2 crews, or there were 16 days")
    static void beginWithoutCrews(Check check) {
        check.refused("an empty chart", Check.STATE, () -> Scenes.withCrews(24), BumpsRiver::begin);
        check.refused("one crew", Check.STATE, () -> Scenes.withChart(1, 5), BumpsRiver::begin);
        BumpsRiver x = Scenes.withChart(2, 5);
        x.lapse(0);
        check.fails("one has lapsed", Check.STATE, x::begin);
        x.enter(0);
        check.due("two again", 1, x.begin());
    }

    @Says(promise = 6, words = "if one is on, the chart has fewer than 2 crews, or there were 16 days")
    static void beginOnceMore(Check check) {
        BumpsRiver x = Scenes.withChart(2, 5);
        Scenes.emptyDays(x, 15);
        check.due("the 16th day", 1, x.begin());
        check.due("it ends", NONE, x.end());
        check.due("its chart", 0, x.chart(15, 0));
        check.fails("a 17th day", Check.STATE, x::begin);
        check.fails("no day is on", Check.STATE, x::end);
        check.due("crews lapse still", 1, x.lapse(1));
        check.due("and enter", 1, x.enter(1));
    }

    @Says(promise = 6, words = "Returns how many divisions race.")
    static void fewestAndMostDivisions(Check check) {
        check.due("two crews", 1, Scenes.withChart(2, 3).begin());
        check.due("24 crews by 3", 8, fullRiver(3).begin());
        check.due("24 crews by 8", 3, fullRiver(8).begin());
        check.due("24 crews by 7", 4, fullRiver(7).begin());
    }

    // ---- 7: contact

    @Says(promise = 7, words = "Throws `IndexOutOfBoundsException` if there is no such crew")
    static void contactOfNoCrew(Check check) {
        check.refusedForNoCrew(ChartEdges::river, 8, BumpsRiver::contact);
        check.refusedForNoCrew(ChartEdges::riverOnADay, 8, BumpsRiver::contact);
    }

    @Says(promise = 7, words = "if no day is on, it does not row now, or none rows ahead of it")
    static void contactWithoutADay(Check check) {
        check.refused("never", Check.STATE, ChartEdges::river, x -> x.contact(1));
        BumpsRiver x = Scenes.withChart(2, 5);
        Scenes.emptyDay(x);
        check.fails("the day is over", Check.STATE, () -> x.contact(1));
    }

    @Says(promise = 7, words = "if no day is on, it does not row now, or none rows ahead of it")
    static void contactOfOneThatDoesNotRow(Check check) {
        check.refused("not in the chart", Check.STATE, ChartEdges::riverOnADay, x -> x.contact(7));
        check.refused("in another division", Check.STATE, ChartEdges::riverOnADay, x -> x.contact(2));
        check.refused("it bumped", Check.STATE, ChartEdges::riverAfterABump, x -> x.contact(5));
        check.refused("it was bumped", Check.STATE, ChartEdges::riverAfterABump, x -> x.contact(4));
        BumpsRiver x = riverOnADay();
        x.end();
        check.fails("its division has raced", Check.STATE, () -> x.contact(6));
        check.due("the sandwich boat rows", 2, x.contact(3));
    }

    @Says(promise = 7, words = "if no day is on, it does not row now, or none rows ahead of it")
    static void contactWithNoneAhead(Check check) {
        check.refused("the foremost one", Check.STATE, ChartEdges::riverOnADay, x -> x.contact(3));
        BumpsRiver x = riverAfterABump();
        x.contact(6);
        BumpsRiver y = Scenes.withChart(3, 5);
        y.begin();
        y.contact(1);
        check.fails("all ahead have left", Check.STATE, () -> y.contact(2));
        check.fails("none is left", Check.STATE, () -> x.contact(3));
    }

    @Says(promise = 7, words = "Returns the crew that is bumped.")
    static void contactInEachDivision(Check check) {
        BumpsRiver x = riverAfterABump();
        check.due("over one that left", 3, x.contact(6));
        x.end();
        check.due("the head", 0, x.contact(1));
        check.due("by the sandwich boat", 2, x.contact(6));
        x.end();
        x.begin();
        check.due("all row again on the next day", 5, x.contact(4));
    }

    // ---- 8: end

    @Says(promise = 8, words = "Throws `IllegalStateException` if no day is on")
    static void endWithoutADay(Check check) {
        check.refused("never", Check.STATE, ChartEdges::river, BumpsRiver::end);
        check.refused("no crews", Check.STATE, BumpsRiver::new, BumpsRiver::end);
        BumpsRiver x = Scenes.withChart(2, 5);
        Scenes.emptyDay(x);
        check.fails("the day is over", Check.STATE, x::end);
        check.fails("it was the first one", Check.INDEX, () -> x.chart(1, 0));
    }

    @Says(promise = 8, words = "NONE if the day is over")
    static void endOfTheLastDivision(Check check) {
        check.due("one division", NONE, endOf(Scenes.withChart(8, 8)));
        check.due("two divisions", 0, endOf(Scenes.withChart(10, 8)));
        check.due("eight divisions", 6, endOf(fullRiver(3)));
    }

    private static int endOf(BumpsRiver x) {
        x.begin();
        return x.end();
    }

    // ---- 9: penal

    @Says(promise = 9, words = "Throws `IndexOutOfBoundsException` if there is no such crew")
    static void penalOfNoCrew(Check check) {
        check.refusedForNoCrew(ChartEdges::river, 8, (x, crew) -> x.penal(crew, 1));
        check.refusedForNoCrew(ChartEdges::river, 8, (x, crew) -> x.penal(crew, 0));
        check.refusedForNoCrew(ChartEdges::riverOnADay, 8, (x, crew) -> x.penal(crew, 6));
    }

    @Says(promise = 9, words = "1 to 5")
    static void penalOutOfRange(Check check) {
        for (int places : new int[] {0, 6, -1, Integer.MIN_VALUE, Integer.MAX_VALUE}) {
            check.refused(places + " places", Check.ARGUMENT, ChartEdges::river, x -> x.penal(0, places));
            check.refused(places + " places, not in it", Check.ARGUMENT, ChartEdges::river, x -> x.penal(7, places));
            check.refused(places + " places on a day", Check.ARGUMENT, ChartEdges::riverOnADay,
                    x -> x.penal(0, places));
        }
        check.due("the fewest", 1, river().penal(0, 1));
        check.due("the most", 5, river().penal(0, 5));
    }

    @Says(promise = 9, words = "if it is not in the chart, or a day is on")
    static void penalOfOneThatIsNotInTheChart(Check check) {
        check.refused("never entered", Check.STATE, ChartEdges::river, x -> x.penal(7, 1));
        BumpsRiver x = river();
        x.lapse(0);
        check.fails("lapsed", Check.STATE, () -> x.penal(0, 1));
    }

    @Says(promise = 9, words = "if it is not in the chart, or a day is on")
    static void penalOnADay(Check check) {
        check.refused("in the chart", Check.STATE, ChartEdges::riverOnADay, x -> x.penal(0, 1));
        check.refused("it rows", Check.STATE, ChartEdges::riverOnADay, x -> x.penal(3, 5));
        check.refused("not in the chart", Check.STATE, ChartEdges::riverOnADay, x -> x.penal(7, 1));
    }

    @Says(promise = 9, words = "Returns its place then.")
    static void penalToTheLastPlace(Check check) {
        check.due("from the last but one", 6, river().penal(5, 5));
        check.due("the last one", 6, river().penal(6, 1));
        check.due("the only one", 0, Scenes.withChart(1, 5).penal(0, 5));
        check.due("five of 24", 23, fullRiver(8).penal(18, 5));
        check.due("five of 24, one place less", 22, fullRiver(8).penal(17, 5));
    }

    // ---- 10: place

    @Says(promise = 10, words = "Throws `IndexOutOfBoundsException` if there is no such crew")
    static void placeOfNoCrew(Check check) {
        check.refusedForNoCrew(ChartEdges::river, 8, BumpsRiver::place);
        check.refusedForNoCrew(() -> fullRiver(8), 24, BumpsRiver::place);
    }

    @Says(promise = 10, words = "NONE if it is not in the chart.")
    static void placeOfOneThatIsNotInTheChart(Check check) {
        BumpsRiver x = river();
        check.due("never entered", NONE, x.place(7));
        x.lapse(6);
        check.due("lapsed", NONE, x.place(6));
        x.enter(6);
        check.due("entered again", 6, x.place(6));
        check.due("the last one of all", 23, fullRiver(8).place(23));
    }

    // ---- 11: placeAnew

    @Says(promise = 11, words = "Throws `IndexOutOfBoundsException` if there is no such crew")
    static void placeAnewOfNoCrew(Check check) {
        check.refusedForNoCrew(ChartEdges::river, 8, BumpsRiver::placeAnew);
        check.refusedForNoCrew(() -> fullRiver(8), 24, BumpsRiver::placeAnew);
    }

    @Says(promise = 11, words = "Returns the same, found by all that happened to the chart")
    static void placeAnewIsTheSame(Check check) {
        BumpsRiver x = river();
        check.due("never entered", NONE, x.placeAnew(7));
        x.lapse(6);
        check.due("lapsed", NONE, x.placeAnew(6));
        x.enter(6);
        x.penal(5, 5);
        check.chartIs("a penal bump to the last place", x, 0, 1, 2, 3, 4, 6, 5);
        x.begin();
        x.contact(5);
        check.chartIs("a bump, but the division races", x, 0, 1, 2, 3, 4, 6, 5);
        x.end();
        check.chartIs("the division has ended, the day has not", x, 0, 1, 2, 3, 4, 5, 6);
        check.fails("a refused call did not happen", Check.STATE, () -> x.lapse(0));
        check.chartIs("the same", x, 0, 1, 2, 3, 4, 5, 6);
        x.contact(3);
        x.end();
        check.chartIs("the day is over", x, 0, 1, 3, 2, 4, 5, 6);
    }

    @Says(promise = 11, words = "Returns the same, found by all that happened to the chart")
    static void placeAnewOfAnEmptyChart(Check check) {
        BumpsRiver x = Scenes.withChart(1, 5);
        x.lapse(0);
        check.due("all lapsed", NONE, x.placeAnew(0));
        check.due("nothing happened", NONE, Scenes.withCrews(1).placeAnew(0));
        check.due("the last one of all", 23, fullRiver(8).placeAnew(23));
    }

    // ---- 12: rows

    @Says(promise = 12, words = "Throws `IndexOutOfBoundsException` if place is below 0")
    static void rowsBelow(Check check) {
        for (int place : new int[] {-1, Integer.MIN_VALUE}) {
            check.refused("no day is on", Check.INDEX, ChartEdges::river, x -> x.rows(place));
            check.refused("a day is on", Check.INDEX, ChartEdges::riverOnADay, x -> x.rows(place));
        }
    }

    @Says(promise = 12, words = "NONE behind the last one, and if no day is on.")
    static void rowsBehindTheLastOne(Check check) {
        BumpsRiver x = riverOnADay();
        check.due("the last one", 6, x.rows(3));
        for (int place : new int[] {4, 23, 24, 25, Integer.MAX_VALUE}) {
            check.due("behind it, " + place, NONE, x.rows(place));
        }
        BumpsRiver nine = fullRiver(8);
        nine.begin();
        check.due("the last one of eight", 23, nine.rows(7));
        check.due("behind eight", NONE, nine.rows(8));
        nine.end();
        check.due("the ninth, the sandwich boat", 16, nine.rows(8));
        check.due("behind nine", NONE, nine.rows(9));
    }

    @Says(promise = 12, words = "NONE behind the last one, and if no day is on.")
    static void rowsWithoutADay(Check check) {
        check.due("never", NONE, river().rows(0));
        BumpsRiver x = Scenes.withChart(2, 5);
        Scenes.emptyDay(x);
        check.due("the day is over", NONE, x.rows(0));
        check.due("far behind", NONE, x.rows(Integer.MAX_VALUE));
    }

    @Says(promise = 12, words = "that rows in the division that races, or began in it")
    static void rowsOfThoseThatLeft(Check check) {
        BumpsRiver x = riverAfterABump();
        x.contact(6);
        check.rowsAre("all have left", x, 3, 4, 5, 6);
        x.end();
        check.rowsAre("the next division", x, 0, 1, 2, 6);
    }

    // ---- 13: chart

    @Says(promise = 13, words = "if that day is not over, or place is below 0")
    static void chartOfADayThatIsNotOver(Check check) {
        for (int day : new int[] {-1, 0, 1, 15, 16, Integer.MIN_VALUE, Integer.MAX_VALUE}) {
            check.refused("no day was, " + day, Check.INDEX, ChartEdges::river, x -> x.chart(day, 0));
            check.refused("the first is on, " + day, Check.INDEX, ChartEdges::riverAfterABump, x -> x.chart(day, 0));
        }
        BumpsRiver x = Scenes.withChart(2, 5);
        Scenes.emptyDay(x);
        check.due("over", 0, x.chart(0, 0));
        check.fails("day -1", Check.INDEX, () -> x.chart(-1, 0));
        check.fails("the next one", Check.INDEX, () -> x.chart(1, 0));
        x.begin();
        check.fails("the next one is on", Check.INDEX, () -> x.chart(1, 0));
        check.due("the first one still", 1, x.chart(0, 1));
        x.end();
        Scenes.emptyDays(x, 14);
        check.due("the last one", 1, x.chart(15, 1));
        check.fails("no 17th", Check.INDEX, () -> x.chart(16, 0));
    }

    @Says(promise = 13, words = "if that day is not over, or place is below 0")
    static void chartBelow(Check check) {
        BumpsRiver x = fullRiver(8);
        Scenes.emptyDays(x, 2);
        check.fails("below 0", Check.INDEX, () -> x.chart(0, -1));
        check.fails("below 0 on the next day", Check.INDEX, () -> x.chart(1, -1));
        check.fails("far below 0", Check.INDEX, () -> x.chart(1, Integer.MIN_VALUE));
    }

    @Says(promise = 13, words = "NONE behind the last one.")
    static void chartBehindTheLastOne(Check check) {
        BumpsRiver full = fullRiver(8);
        Scenes.emptyDays(full, 2);
        check.due("the last one of 24", 23, full.chart(0, 23));
        for (int place : new int[] {24, 25, 47, Integer.MAX_VALUE}) {
            check.due("behind it, " + place, NONE, full.chart(0, place));
            check.due("on the next day, " + place, NONE, full.chart(1, place));
        }
        BumpsRiver two = Scenes.withChart(2, 5);
        Scenes.emptyDay(two);
        check.due("the last one of two", 1, two.chart(0, 1));
        check.due("behind two", NONE, two.chart(0, 2));
    }

    @Says(promise = 13, words = "at a place of the chart at the end of a day")
    static void chartsStayAsTheyWere(Check check) {
        BumpsRiver x = Scenes.withChart(3, 8);
        Scenes.risingDay(x, 1);
        x.penal(1, 5);
        x.lapse(0);
        Scenes.risingDay(x, 1);
        int[][] due = {{1, 0, 2, NONE}, {1, 2, NONE, NONE}};
        for (int day = 0; day < 2; day++) {
            for (int place = 0; place < 4; place++) {
                check.due("day " + day + ", place " + place, due[day][place], x.chart(day, place));
            }
        }
    }

    // ---- 14: bumps

    @Says(promise = 14, words = "Throws `IndexOutOfBoundsException` if there is no such crew")
    static void bumpsOfNoCrew(Check check) {
        check.refusedForNoCrew(ChartEdges::river, 8, (x, crew) -> x.bumps(crew, 0));
        check.refusedForNoCrew(ChartEdges::river, 8, (x, crew) -> x.bumps(crew, 5));
        check.refusedForNoCrew(ChartEdges::river, 8, (x, crew) -> x.bumps(crew, -1));
    }

    @Says(promise = 14, words = "Throws `IllegalArgumentException` if what is out of range")
    static void bumpsOutOfRange(Check check) {
        for (int what : new int[] {-1, 5, Integer.MIN_VALUE, Integer.MAX_VALUE}) {
            check.refused("what " + what, Check.ARGUMENT, ChartEdges::riverAfterABump, x -> x.bumps(5, what));
        }
    }

    @Says(promise = 14, words = "0 how many it made, 1 how many times it was bumped, 2 how many overbumps it made")
    static void bumpsAtFirst(Check check) {
        BumpsRiver x = riverAfterABump();
        for (int what = 0; what <= 4; what++) {
            check.due("of one not in the chart, " + what, 0, x.bumps(7, what));
            check.due("of one in another division, " + what, 0, x.bumps(0, what));
            check.due("of one that bumped, " + what, what == 0 ? 1 : 0, x.bumps(5, what));
            check.due("of one that was bumped, " + what, what == 1 ? 1 : 0, x.bumps(4, what));
        }
        x.contact(6);
        for (int what = 0; what <= 4; what++) {
            check.due("of one that bumped over, " + what, what == 0 || what == 2 ? 1 : 0, x.bumps(6, what));
            check.due("of the one that it bumped, " + what, what == 1 ? 1 : 0, x.bumps(3, what));
        }
    }

    @Says(promise = 14, words = "3 for how many years it has blades, 4 spoons")
    static void bladesAreKept(Check check) {
        BumpsRiver x = Scenes.withChart(16, 8);
        Scenes.risingDays(x, 15, 4);
        x.lapse(15);
        check.due("by one that lapsed", 1, x.bumps(15, 3));
        x.enter(15);
        Scenes.emptyDays(x, 4);
        check.due("a year without", 1, x.bumps(15, 3));
    }
}
