/** At least one test for each promise of the document, in its order. */
public final class PromiseTest {
    private static final Class<?> INDEX = Check.INDEX;
    private static final Class<?> ARGUMENT = Check.ARGUMENT;
    private static final Class<?> STATE = Check.STATE;
    private static final Check CHECK = new Check();

    private PromiseTest() {
    }

    public static void main(String[] arguments) {
        constants();
        promise1NewObject();
        promise2Crew();
        promise3Enter();
        promise4Lapse();
        promise5Division();
        promise6Begin();
        promise6DivisionsByCrews();
        promise7Contact();
        promise7NearestThatRowsStill();
        promise8End();
        promise8SandwichBoat();
        promise9Penal();
        promise10Place();
        promise11PlaceAnew();
        promise12Rows();
        promise13Chart();
        promise14Bumps();
        promise14BladesAndSpoons();
        promise14NeitherBladesNorSpoons();
        promise14NoSpoonsForOneThatLapsed();
        promise14SecondYear();
        promise15Seed();
        promise16Draw();
        promise17Lane();
        promise18Time();
        promise19Next();
        promise19FinalOfThreeHeats();
        promise19FinalOfFourHeats();
        promise19FinalWithoutTimes();
        promise20Regatta();
        promise20SecondOfFourHeats();
        promise21Result();
        promise22Verdict();
        promise23Head();
        promise24Finish();
        promise24Handicaps();
        promise25Punish();
        promise26Rank();
        promise27Overtook();
        CHECK.close();
    }

    private static void due(String what, long want, long got) {
        CHECK.due(what, want, got);
    }

    private static void fails(String what, Class<?> due, Check.Call call) {
        CHECK.fails(what, due, call);
    }

    private static void constants() {
        due("NONE", -1, BumpsRiver.NONE);
        due("ENTERING", 0, BumpsRiver.ENTERING);
        due("HEATS", 1, BumpsRiver.HEATS);
        due("FINAL", 2, BumpsRiver.FINAL);
        due("OVER", 3, BumpsRiver.OVER);
    }

    private static void promise1NewObject() {
        BumpsRiver x = new BumpsRiver();
        CHECK.needsCrew("1: place", 0, x::place);
        due("1: first crew", 0, x.crew(0, 20));
        due("1: not in the chart", BumpsRiver.NONE, x.place(0));
        due("1: none rows", BumpsRiver.NONE, x.rows(0));
        fails("1: no day was", INDEX, () -> x.chart(0, 0));
        fails("1: no day is on", STATE, x::end);
        due("1: the round", BumpsRiver.ENTERING, x.regatta());
        due("1: not in the head", BumpsRiver.NONE, x.rank(0));
        BumpsRiver other = new BumpsRiver();
        due("1: objects share nothing", 0, other.crew(0, 20));
    }

    private static void promise2Crew() {
        BumpsRiver x = new BumpsRiver();
        fails("2: class -1", ARGUMENT, () -> x.crew(-1, 20));
        fails("2: class 4", ARGUMENT, () -> x.crew(4, 20));
        fails("2: age 14", ARGUMENT, () -> x.crew(0, 14));
        fails("2: age 81", ARGUMENT, () -> x.crew(0, 81));
        fails("2: extremes", ARGUMENT, () -> x.crew(Integer.MIN_VALUE, Integer.MAX_VALUE));
        due("2: least", 0, x.crew(0, 15));
        due("2: most", 1, x.crew(3, 80));
        for (int i = 2; i < 24; i++) {
            due("2: crew " + i, i, x.crew(i % 4, 20 + i));
        }
        fails("2: there are 24", STATE, () -> x.crew(0, 20));
        fails("2: the argument first", ARGUMENT, () -> x.crew(0, 81));
        CHECK.needsCrew("2: place", 24, x::place);
    }

    private static void promise3Enter() {
        BumpsRiver x = Scenes.withCrews(4);
        CHECK.needsCrew("3: enter", 4, x::enter);
        due("3: the first one", 0, x.enter(2));
        due("3: the second one", 1, x.enter(0));
        fails("3: twice", STATE, () -> x.enter(2));
        CHECK.chartIs("3", x, 2, 0);
        x.begin();
        fails("3: a day is on", STATE, () -> x.enter(1));
        CHECK.needsCrew("3: on a day", 4, x::enter);
        Scenes.endDay(x);
        due("3: behind the last", 2, x.enter(1));
        x.lapse(2);
        due("3: entered again", 2, x.enter(2));
        CHECK.chartIs("3: again", x, 0, 1, 2);
    }

    private static void promise4Lapse() {
        BumpsRiver x = Scenes.withChart(5, 5);
        CHECK.needsCrew("4: lapse", 5, x::lapse);
        due("4: from the middle", 2, x.lapse(2));
        CHECK.chartIs("4", x, 0, 1, 3, 4);
        due("4: not in the chart", BumpsRiver.NONE, x.place(2));
        due("4: not in the chart anew", BumpsRiver.NONE, x.placeAnew(2));
        fails("4: twice", STATE, () -> x.lapse(2));
        due("4: the head", 0, x.lapse(0));
        due("4: the last one", 2, x.lapse(4));
        CHECK.chartIs("4: left", x, 1, 3);
        x.begin();
        fails("4: a day is on", STATE, () -> x.lapse(1));
        CHECK.needsCrew("4: on a day", 5, x::lapse);
        Scenes.endDay(x);
        x.lapse(1);
        x.lapse(3);
        due("4: an empty chart is entered", 0, x.enter(4));
    }

    private static void promise5Division() {
        BumpsRiver x = Scenes.withChart(12, 5);
        fails("5: 2 places", ARGUMENT, () -> x.division(2));
        fails("5: 9 places", ARGUMENT, () -> x.division(9));
        due("5: as told before", 5, x.division(8));
        due("5: as told, no day yet", 8, x.division(3));
        due("5: the day has it", 4, x.begin());
        fails("5: a day is on", STATE, () -> x.division(4));
        fails("5: the argument first", ARGUMENT, () -> x.division(9));
        Scenes.endDay(x);
        due("5: kept", 3, x.division(8));
        due("5: the next day has it", 2, x.begin());
        due("5: five at first", 5, new BumpsRiver().division(3));
    }

    private static void promise6Begin() {
        BumpsRiver x = Scenes.withCrews(3);
        fails("6: an empty chart", STATE, x::begin);
        x.enter(0);
        fails("6: one crew", STATE, x::begin);
        x.enter(1);
        due("6: two crews", 1, x.begin());
        fails("6: one is on", STATE, x::begin);
        Scenes.endDay(x);
        for (int day = 1; day < 16; day++) {
            due("6: day " + day, 1, x.begin());
            Scenes.endDay(x);
        }
        fails("6: there were 16", STATE, x::begin);
        due("6: the chart of the last one", 1, x.chart(15, 1));
        fails("6: no more", INDEX, () -> x.chart(16, 0));
        due("6: crews enter still", 2, x.enter(2));
    }

    /** One place that would be left belongs to the division ahead; two are a division. */
    private static void promise6DivisionsByCrews() {
        due("6: 3 of 3", 1, Scenes.withChart(3, 3).begin());
        due("6: 4 of 3", 1, Scenes.withChart(4, 3).begin());
        due("6: 5 of 3", 2, Scenes.withChart(5, 3).begin());
        due("6: 6 of 3", 2, Scenes.withChart(6, 3).begin());
        due("6: 7 of 3", 2, Scenes.withChart(7, 3).begin());
        due("6: 8 of 3", 3, Scenes.withChart(8, 3).begin());
        due("6: 24 of 3", 8, Scenes.withChart(24, 3).begin());
        due("6: 23 of 3", 8, Scenes.withChart(23, 3).begin());
        due("6: 22 of 3", 7, Scenes.withChart(22, 3).begin());
        due("6: 2 of 8", 1, Scenes.withChart(2, 8).begin());
        due("6: 17 of 8", 2, Scenes.withChart(17, 8).begin());
        due("6: 18 of 8", 3, Scenes.withChart(18, 8).begin());
        BumpsRiver x = Scenes.withChart(7, 3);
        x.begin();
        CHECK.rowsAre("6: the last one has four", x, 3, 4, 5, 6);
        x.end();
        CHECK.rowsAre("6: the first one and the sandwich boat", x, 0, 1, 2, 3);
    }

    private static void promise7Contact() {
        BumpsRiver x = Scenes.withChart(8, 4);
        fails("7: no day is on", STATE, () -> x.contact(1));
        CHECK.needsCrew("7: contact", 8, x::contact);
        x.begin();
        fails("7: in another division", STATE, () -> x.contact(2));
        fails("7: none ahead", STATE, () -> x.contact(4));
        due("7: a bump", 5, x.contact(6));
        fails("7: the one that bumped left", STATE, () -> x.contact(6));
        fails("7: the bumped one left", STATE, () -> x.contact(5));
        CHECK.needsCrew("7: on a day", 8, x::contact);
        CHECK.chartIs("7: places change at the end", x, 0, 1, 2, 3, 4, 5, 6, 7);
        due("7: counts at once", 1, x.bumps(6, 0));
        due("7: an overbump", 4, x.contact(7));
        due("7: places change at the end", 0, x.end());
        CHECK.chartIs("7: at the end", x, 0, 1, 2, 3, 7, 6, 5, 4);
    }

    private static void promise7NearestThatRowsStill() {
        BumpsRiver x = Scenes.withChart(6, 8);
        x.begin();
        due("7: inner", 2, x.contact(3));
        due("7: over two that left", 1, x.contact(4));
        due("7: over four that left", 0, x.contact(5));
        due("7: the overbumps", 0, x.bumps(3, 2));
        due("7: the overbump of 4", 1, x.bumps(4, 2));
        due("7: the overbump of 5", 1, x.bumps(5, 2));
        x.end();
        CHECK.chartIs("7: turned round", x, 5, 4, 3, 2, 1, 0);
        x.begin();
        due("7: the head is bumped", 5, x.contact(4));
        fails("7: none rows ahead still", STATE, () -> x.contact(3));
    }

    private static void promise8End() {
        BumpsRiver x = Scenes.withChart(11, 4);
        fails("8: no day is on", STATE, x::end);
        due("8: three divisions", 3, x.begin());
        CHECK.rowsAre("8: the last one", x, 8, 9, 10);
        due("8: then 1", 1, x.end());
        CHECK.rowsAre("8: division 1", x, 4, 5, 6, 7, 8);
        due("8: then 0", 0, x.end());
        CHECK.rowsAre("8: division 0", x, 0, 1, 2, 3, 4);
        fails("8: the day is not over", INDEX, () -> x.chart(0, 0));
        due("8: the day is over", BumpsRiver.NONE, x.end());
        due("8: its chart", 0, x.chart(0, 0));
        fails("8: it was over", STATE, x::end);
        due("8: none rows", BumpsRiver.NONE, x.rows(0));
    }

    /** A crew rises from the last division to the head on one day. */
    private static void promise8SandwichBoat() {
        BumpsRiver x = Scenes.withChart(9, 3);
        x.begin();
        due("8: in the last one", 6, x.contact(7));
        x.end();
        CHECK.rowsAre("8: it rows twice", x, 3, 4, 5, 7);
        due("8: the last of its division", 5, x.contact(7));
        due("8: the first of its division", 3, x.contact(4));
        x.end();
        CHECK.chartIs("8: across the divisions", x, 0, 1, 2, 4, 3, 7, 5, 6, 8);
        CHECK.rowsAre("8: another one rows twice", x, 0, 1, 2, 4);
        due("8: bumped", 1, x.contact(2));
        due("8: an overbump of the sandwich boat", 0, x.contact(4));
        x.end();
        CHECK.chartIs("8: the head", x, 4, 2, 1, 0, 3, 7, 5, 6, 8);
        due("8: two bumps on the day", 2, x.bumps(4, 0));
        due("8: one overbump", 1, x.bumps(4, 2));
        due("8: right ahead of the sandwich boat", 0, x.bumps(7, 2));
    }

    private static void promise9Penal() {
        BumpsRiver x = Scenes.withChart(7, 5);
        CHECK.needsCrew("9: penal", 7, crew -> x.penal(crew, 1));
        CHECK.needsCrew("9: the crew first", 7, crew -> x.penal(crew, 0));
        fails("9: 0 places", ARGUMENT, () -> x.penal(0, 0));
        fails("9: 6 places", ARGUMENT, () -> x.penal(0, 6));
        due("9: two down", 3, x.penal(1, 2));
        CHECK.chartIs("9: those between go up", x, 0, 2, 3, 1, 4, 5, 6);
        due("9: to the last one", 6, x.penal(4, 5));
        CHECK.chartIs("9: no farther", x, 0, 2, 3, 1, 5, 6, 4);
        due("9: the last one stays", 6, x.penal(4, 1));
        due("9: five down", 5, x.penal(0, 5));
        CHECK.chartIs("9: five down", x, 2, 3, 1, 5, 6, 0, 4);
        x.lapse(2);
        fails("9: not in the chart", STATE, () -> x.penal(2, 1));
        fails("9: the argument first", ARGUMENT, () -> x.penal(2, 6));
        x.begin();
        fails("9: a day is on", STATE, () -> x.penal(3, 1));
        fails("9: the argument first on a day", ARGUMENT, () -> x.penal(3, 6));
        due("9: no bump", 0, x.bumps(1, 1));
    }

    private static void promise10Place() {
        BumpsRiver x = Scenes.withCrews(3);
        CHECK.needsCrew("10: place", 3, x::place);
        due("10: not in the chart", BumpsRiver.NONE, x.place(0));
        x.enter(1);
        x.enter(0);
        due("10: behind", 1, x.place(0));
        due("10: ahead", 0, x.place(1));
        x.begin();
        x.contact(0);
        due("10: not yet", 1, x.place(0));
        x.end();
        due("10: bumped", 0, x.place(0));
    }

    private static void promise11PlaceAnew() {
        BumpsRiver x = Scenes.withChart(9, 3);
        CHECK.needsCrew("11: placeAnew", 9, x::placeAnew);
        x.penal(0, 3);
        x.lapse(8);
        x.begin();
        x.contact(7);
        due("11: not yet", x.place(7), x.placeAnew(7));
        x.end();
        x.contact(7);
        Scenes.endDay(x);
        x.enter(8);
        x.penal(8, 2);
        x.lapse(3);
        for (int crew = 0; crew < 9; crew++) {
            due("11: crew " + crew, x.place(crew), x.placeAnew(crew));
            due("11: asked twice", x.place(crew), x.placeAnew(crew));
        }
        CHECK.chartIs("11: by hand", x, 1, 2, 0, 4, 7, 5, 6, 8);
    }

    private static void promise12Rows() {
        BumpsRiver x = Scenes.withChart(6, 3);
        due("12: no day is on", BumpsRiver.NONE, x.rows(0));
        fails("12: below 0", INDEX, () -> x.rows(-1));
        x.begin();
        CHECK.rowsAre("12: the last division", x, 3, 4, 5);
        fails("12: below 0 on a day", INDEX, () -> x.rows(Integer.MIN_VALUE));
        due("12: far behind", BumpsRiver.NONE, x.rows(Integer.MAX_VALUE));
        x.contact(4);
        CHECK.rowsAre("12: those that left began in it", x, 3, 4, 5);
        x.end();
        CHECK.rowsAre("12: with the sandwich boat", x, 0, 1, 2, 4);
        x.end();
        due("12: the day is over", BumpsRiver.NONE, x.rows(0));
    }

    private static void promise13Chart() {
        BumpsRiver x = Scenes.withChart(3, 5);
        fails("13: no day was", INDEX, () -> x.chart(0, 0));
        x.begin();
        x.contact(1);
        fails("13: it is not over", INDEX, () -> x.chart(0, 0));
        Scenes.endDay(x);
        x.lapse(0);
        Scenes.emptyDay(x);
        due("13: the head of day 0", 1, x.chart(0, 0));
        due("13: the second of day 0", 0, x.chart(0, 1));
        due("13: the last of day 0", 2, x.chart(0, 2));
        due("13: behind it", BumpsRiver.NONE, x.chart(0, 3));
        due("13: far behind it", BumpsRiver.NONE, x.chart(0, 24));
        due("13: farther", BumpsRiver.NONE, x.chart(0, Integer.MAX_VALUE));
        due("13: the last of day 1", 2, x.chart(1, 1));
        due("13: a lapsed one is gone", BumpsRiver.NONE, x.chart(1, 2));
        fails("13: below 0", INDEX, () -> x.chart(1, -1));
        fails("13: day 2", INDEX, () -> x.chart(2, 0));
        fails("13: day -1", INDEX, () -> x.chart(-1, 0));
        x.penal(1, 1);
        due("13: between days it stays", 1, x.chart(1, 0));
    }

    private static void promise14Bumps() {
        BumpsRiver x = Scenes.withChart(5, 5);
        CHECK.needsCrew("14: bumps", 5, crew -> x.bumps(crew, 0));
        CHECK.needsCrew("14: the crew first", 5, crew -> x.bumps(crew, 5));
        fails("14: what -1", ARGUMENT, () -> x.bumps(0, -1));
        fails("14: what 5", ARGUMENT, () -> x.bumps(0, 5));
        x.begin();
        x.contact(2);
        x.contact(3);
        due("14: made at once", 1, x.bumps(2, 0));
        due("14: bumped at once", 1, x.bumps(1, 1));
        due("14: right ahead", 0, x.bumps(2, 2));
        due("14: an overbump is a bump", 1, x.bumps(3, 0));
        due("14: an overbump", 1, x.bumps(3, 2));
        due("14: bumped by it", 1, x.bumps(0, 1));
        due("14: none made", 0, x.bumps(0, 0));
        due("14: neither", 0, x.bumps(4, 0) + x.bumps(4, 1) + x.bumps(4, 2));
        Scenes.endDay(x);
        x.lapse(3);
        due("14: kept by one that lapsed", 1, x.bumps(3, 0));
        x.enter(3);
        x.begin();
        x.contact(3);
        due("14: two days", 2, x.bumps(3, 0));
        due("14: one of them over", 1, x.bumps(3, 2));
    }

    /** Crew 7 of eight rises on each day of a year, and crew 0 falls on each. */
    private static void promise14BladesAndSpoons() {
        BumpsRiver x = Scenes.withChart(8, 8);
        for (int day = 0; day < 4; day++) {
            due("14: no blades ahead of the end of day " + day, 0, x.bumps(7, 3));
            due("14: no spoons ahead of the end of day " + day, 0, x.bumps(0, 4));
            x.begin();
            x.contact(7);
            if (day < 3) {
                due("14: crew 0 is bumped", 0, x.contact(day + 1));
            }
            x.end();
        }
        CHECK.chartIs("14: the year", x, 1, 2, 3, 7, 0, 4, 5, 6);
        due("14: blades", 1, x.bumps(7, 3));
        due("14: blades are no spoons", 0, x.bumps(7, 4));
        due("14: spoons", 1, x.bumps(0, 4));
        due("14: spoons are no blades", 0, x.bumps(0, 3));
        for (int crew = 1; crew < 7; crew++) {
            due("14: neither for " + crew, 0, x.bumps(crew, 3) + x.bumps(crew, 4));
        }
        x.lapse(7);
        due("14: kept by one that lapsed", 1, x.bumps(7, 3));
    }

    private static BumpsRiver twoRisingDays() {
        BumpsRiver x = Scenes.withChart(16, 8);
        Scenes.risingDay(x, 15);
        Scenes.risingDay(x, 15);
        return x;
    }

    private static void promise14NeitherBladesNorSpoons() {
        BumpsRiver lapsed = twoRisingDays();
        lapsed.lapse(15);
        lapsed.enter(15);
        Scenes.risingDay(lapsed, 15);
        Scenes.risingDay(lapsed, 15);
        due("14: not in the chart between days", 0, lapsed.bumps(15, 3));

        BumpsRiver stayed = twoRisingDays();
        Scenes.emptyDay(stayed);
        Scenes.risingDay(stayed, 15);
        due("14: a day without a bump", 0, stayed.bumps(15, 3));

        BumpsRiver put = twoRisingDays();
        put.penal(15, 5);
        Scenes.risingDay(put, 15);
        put.penal(15, 5);
        Scenes.risingDay(put, 15);
        due("14: a penal bump is between days", 1, put.bumps(15, 3));

        BumpsRiver late = Scenes.withCrews(16);
        for (int crew = 0; crew < 15; crew++) {
            late.enter(crew);
        }
        late.division(8);
        Scenes.emptyDay(late);
        late.enter(15);
        for (int day = 1; day < 5; day++) {
            Scenes.risingDay(late, 15);
        }
        due("14: in the chart from the second day on", 0, late.bumps(15, 3));

        BumpsRiver fallen = Scenes.withChart(6, 8);
        for (int day = 0; day < 4; day++) {
            fallen.penal(day, 5);
            Scenes.emptyDay(fallen);
        }
        due("14: penal bumps are no spoons", 0, fallen.bumps(0, 4));
        due("14: those that went up between days have no blades", 0, fallen.bumps(5, 3));
    }

    /** Crew 0 falls on each day of the year, but is out of the chart between two of them. */
    private static void promise14NoSpoonsForOneThatLapsed() {
        BumpsRiver x = Scenes.withCrews(8);
        for (int crew = 0; crew < 4; crew++) {
            x.enter(crew);
        }
        for (int day = 0; day < 4; day++) {
            if (day == 2) {
                x.lapse(0);
                x.enter(0);
                x.enter(4);
                x.enter(5);
            }
            x.begin();
            due("14: crew 0 is bumped on day " + day, 0, x.contact(x.rows(x.place(0) + 1)));
            x.end();
        }
        due("14: bumped four times", 4, x.bumps(0, 1));
        due("14: no spoons", 0, x.bumps(0, 4));
    }

    private static void promise14SecondYear() {
        BumpsRiver x = Scenes.withChart(16, 8);
        for (int day = 0; day < 4; day++) {
            Scenes.emptyDay(x);
        }
        x.lapse(15);
        x.enter(15);
        for (int day = 4; day < 8; day++) {
            due("14: not yet on day " + day, 0, x.bumps(15, 3));
            Scenes.risingDay(x, 15);
        }
        due("14: blades of the second year", 1, x.bumps(15, 3));
        x.penal(15, 5);
        for (int day = 8; day < 12; day++) {
            Scenes.risingDay(x, 15);
        }
        due("14: blades of two years", 2, x.bumps(15, 3));
        BumpsRiver across = Scenes.withChart(16, 8);
        Scenes.emptyDay(across);
        for (int day = 1; day < 5; day++) {
            Scenes.risingDay(across, 15);
        }
        due("14: four days across two years", 0, across.bumps(15, 3));
    }

    private static void promise15Seed() {
        BumpsRiver x = Scenes.withCrews(24);
        CHECK.needsCrew("15: seed", 24, x::seed);
        due("15: the best one", 1, x.seed(5));
        due("15: the next one", 2, x.seed(0));
        fails("15: twice", STATE, () -> x.seed(5));
        x.draw();
        fails("15: HEATS", STATE, () -> x.seed(1));
        CHECK.needsCrew("15: the crew first", 24, x::seed);
        x.next();
        fails("15: OVER", STATE, () -> x.seed(1));
        x.regatta();
        for (int crew = 0; crew < 24; crew++) {
            due("15: all " + crew, crew + 1, x.seed(crew));
        }
        x.draw();
        x.next();
        BumpsRiver y = Scenes.withSeeds(8);
        y.crew(0, 20);
        y.draw();
        y.next();
        fails("15: FINAL", STATE, () -> y.seed(8));
    }

    private static void promise16Draw() {
        BumpsRiver x = Scenes.withCrews(3);
        fails("16: none", STATE, x::draw);
        x.seed(0);
        fails("16: one", STATE, x::draw);
        x.seed(1);
        due("16: two", 1, x.draw());
        fails("16: HEATS", STATE, x::draw);
        x.next();
        fails("16: OVER", STATE, x::draw);
        due("16: the round is HEATS", BumpsRiver.OVER, x.regatta());
        int[] heats = {0, 0, 1, 1, 1, 1, 1, 2, 2, 2, 2, 2, 2, 3, 3, 3, 3, 3, 3, 4, 4, 4, 4, 4, 4};
        for (int crews = 2; crews <= 24; crews++) {
            BumpsRiver y = Scenes.withSeeds(crews);
            due("16: " + crews, heats[crews], y.draw());
            due("16: HEATS of " + crews, BumpsRiver.HEATS, y.regatta());
        }
        BumpsRiver z = Scenes.withSeeds(7);
        z.draw();
        z.next();
        fails("16: FINAL", STATE, z::draw);
    }

    private static void promise17Lane() {
        BumpsRiver x = Scenes.withSeeds(15);
        fails("17: ENTERING", INDEX, () -> x.lane(0, 1));
        x.draw();
        CHECK.lanesAre("17: to and fro", x, 0, 12, 6, 0, 5, 11, -1);
        CHECK.lanesAre("17: to and fro", x, 1, 13, 7, 1, 4, 10, -1);
        x.regatta();
        BumpsRiver y = Scenes.withSeeds(15);
        y.draw();
        CHECK.lanesAre("17: the heat at the turn", y, 2, 14, 8, 2, 3, 9, -1);
        fails("17: heat 3", INDEX, () -> y.lane(3, 1));
        fails("17: heat -1", INDEX, () -> y.lane(-1, 1));
        fails("17: lane 0", INDEX, () -> y.lane(0, 0));
        fails("17: lane 7", INDEX, () -> y.lane(0, 7));
        fails("17: lane far off", INDEX, () -> y.lane(0, Integer.MAX_VALUE));
        y.next();
        CHECK.lanesAre("17: the final, by seeds alone", y, 0, 4, 2, 0, 1, 3, 5);
        fails("17: one final", INDEX, () -> y.lane(1, 1));
        y.next();
        fails("17: OVER", INDEX, () -> y.lane(0, 1));
    }

    private static void promise18Time() {
        BumpsRiver x = Scenes.withSeeds(8);
        x.crew(0, 20);
        CHECK.needsCrew("18: time", 9, crew -> x.time(crew, 1));
        CHECK.needsCrew("18: the crew first", 9, crew -> x.time(crew, 0));
        fails("18: ENTERING", STATE, () -> x.time(0, 1));
        fails("18: the argument first", ARGUMENT, () -> x.time(0, 0));
        x.draw();
        fails("18: time 0", ARGUMENT, () -> x.time(0, 0));
        fails("18: time 1000000", ARGUMENT, () -> x.time(0, 1000000));
        fails("18: not entered", STATE, () -> x.time(8, 1));
        due("18: the first told", 0, x.time(7, 999999));
        due("18: alike, the better seed", 0, x.time(0, 999999));
        due("18: alike, the worse seed", 1, x.time(7, 999999));
        due("18: between", 1, x.time(4, 999999));
        due("18: in place of one", 0, x.time(4, 1));
        due("18: alike again", 1, x.time(4, 999999) - x.time(7, 1));
        due("18: in place of one, worse", 2, x.time(7, 999999));
        due("18: another heat", 0, x.time(1, 500000));
        x.next();
        due("18: FINAL, times anew", 0, x.time(0, 999999));
        fails("18: not in the final", STATE, () -> x.time(3, 1));
        x.next();
        fails("18: OVER", STATE, () -> x.time(0, 1));
    }

    private static void promise19Next() {
        BumpsRiver x = Scenes.withSeeds(6);
        fails("19: ENTERING", STATE, x::next);
        x.draw();
        x.time(5, 100);
        due("19: one heat was the final", BumpsRiver.OVER, x.next());
        fails("19: OVER", STATE, x::next);
        CHECK.resultsAre("19: one heat", x, 5, 0, 1, 2, 3, 4);

        BumpsRiver y = Scenes.withSeeds(8);
        y.draw();
        // heats: 0 3 4 7, and 1 2 5 6
        y.time(7, 400);
        y.time(4, 400);
        y.time(3, 300);
        y.time(0, 500);
        y.time(6, 350);
        due("19: then the final", BumpsRiver.FINAL, y.next());
        CHECK.lanesAre("19: three of each", y, 0, 1, 4, 3, 6, 7, 2);
        y.time(2, 9);
        due("19: then it is over", BumpsRiver.OVER, y.next());
        CHECK.resultsAre("19: by times of the final and by seeds", y, 2, 1, 3, 4, 6, 7);
    }

    private static void promise19FinalOfThreeHeats() {
        BumpsRiver x = Scenes.withSeeds(13);
        x.draw();
        // heats: 0 5 6 11 12, 1 4 7 10, and 2 3 8 9
        x.time(12, 100);
        x.time(11, 100);
        x.time(6, 101);
        x.time(5, 102);
        x.time(10, 900);
        x.time(7, 901);
        x.time(4, 902);
        x.time(9, 300);
        x.next();
        CHECK.lanesAre("19: two of each", x, 0, 7, 9, 11, 12, 10, 2);
    }

    private static void promise19FinalOfFourHeats() {
        BumpsRiver x = Scenes.withSeeds(24);
        x.draw();
        // heats: 0 7 8 15 16 23, 1 6 9 14 17 22, 2 5 10 13 18 21, and 3 4 11 12 19 20
        x.time(0, 500);
        x.time(7, 600);
        x.time(8, 600);
        x.time(1, 700);
        x.time(6, 600);
        x.time(9, 600);
        x.time(2, 100);
        x.time(5, 600);
        x.next();
        // of each heat the first: 0, 6 (600, the better seed), 2, and 3 without a time; then of 7, 8, 9, 5: 5 and 7
        CHECK.lanesAre("19: one of each, then by times", x, 0, 7, 5, 2, 0, 6, 3);
    }

    /** Without enough times the final has fewer than six. */
    private static void promise19FinalWithoutTimes() {
        BumpsRiver x = Scenes.withSeeds(19);
        x.draw();
        x.next();
        CHECK.lanesAre("19: the first ones alone", x, 0, -1, 2, 0, 1, 3, -1);
        x.next();
        CHECK.resultsAre("19: four", x, 0, 1, 2, 3);
        BumpsRiver y = Scenes.withSeeds(19);
        y.draw();
        y.time(18, 77);
        y.time(10, 77);
        y.next();
        // heat 2 has 2 5 10 13 18: 10 is its first, and 18 has a time
        CHECK.lanesAre("19: one more by its time", y, 0, 3, 0, 10, 18, 1, -1);
    }

    private static void promise20Regatta() {
        BumpsRiver x = Scenes.withSeeds(7);
        x.enter(0);
        x.head(0);
        due("20: ENTERING", BumpsRiver.ENTERING, x.regatta());
        due("20: without crews", 1, x.seed(6));
        x.seed(5);
        x.draw();
        x.time(6, 10);
        due("20: HEATS", BumpsRiver.HEATS, x.regatta());
        fails("20: no heats", INDEX, () -> x.lane(0, 3));
        fails("20: none entered", STATE, x::draw);
        x.seed(5);
        x.seed(6);
        x.draw();
        CHECK.lanesAre("20: seeds anew", x, 0, -1, -1, 5, 6, -1, -1);
        due("20: times anew", 0, x.time(5, 20));
        x.next();
        due("20: no time", BumpsRiver.NONE, x.verdict(1));
        due("20: OVER", BumpsRiver.OVER, x.regatta());
        fails("20: no results", STATE, () -> x.result(0));
        for (int crew = 0; crew < 7; crew++) {
            x.seed(crew);
        }
        x.draw();
        x.next();
        due("20: FINAL", BumpsRiver.FINAL, x.regatta());
        due("20: the chart stays", 0, x.place(0));
        fails("20: the head stays", STATE, () -> x.head(0));
    }

    /** What the one regatta left can't come into the next one's final. */
    private static void promise20SecondOfFourHeats() {
        BumpsRiver x = Scenes.withSeeds(24);
        x.draw();
        for (int crew = 0; crew < 24; crew++) {
            x.time(crew, 1000 + crew);
        }
        x.next();
        CHECK.lanesAre("20: the first one", x, 0, 4, 2, 0, 1, 3, 5);
        x.time(5, 1);
        x.next();
        due("20: its best one", 5, x.result(0));
        x.regatta();
        for (int crew = 23; crew >= 0; crew--) {
            x.seed(crew);
        }
        x.draw();
        x.time(0, 5000);
        x.time(16, 5000);
        x.next();
        // heat 0: 23 16 15 8 7 0; 16 is its first, then 0 by its time; 22, 21 and 20 are first without one
        CHECK.lanesAre("20: the next one", x, 0, 20, 22, 16, 0, 21, -1);
        x.next();
        CHECK.resultsAre("20: the next one", x, 22, 21, 20, 16, 0);
    }

    private static void promise21Result() {
        BumpsRiver x = Scenes.withSeeds(3);
        fails("21: below 0", INDEX, () -> x.result(-1));
        fails("21: ENTERING", STATE, () -> x.result(0));
        x.draw();
        fails("21: HEATS", STATE, () -> x.result(0));
        fails("21: the place first", INDEX, () -> x.result(Integer.MIN_VALUE));
        x.time(2, 5);
        x.time(1, 5);
        x.next();
        CHECK.resultsAre("21: a dead heat by seeds", x, 1, 2, 0);
        fails("21: below 0, OVER", INDEX, () -> x.result(-1));
        due("21: far behind", BumpsRiver.NONE, x.result(Integer.MAX_VALUE));
        BumpsRiver y = Scenes.withSeeds(7);
        y.draw();
        y.next();
        fails("21: FINAL", STATE, () -> y.result(0));
    }

    private static void promise22Verdict() {
        BumpsRiver x = Scenes.withSeeds(6);
        fails("22: below 1", INDEX, () -> x.verdict(0));
        fails("22: ENTERING", STATE, () -> x.verdict(1));
        x.draw();
        fails("22: HEATS", STATE, () -> x.verdict(1));
        x.time(0, 1);
        x.time(1, 1);
        x.time(2, 625);
        x.time(3, 1250);
        x.time(4, 999999);
        x.next();
        due("22: a dead heat", 0, x.verdict(1));
        due("22: 624", 0, x.verdict(2));
        due("22: 625", 1, x.verdict(3));
        due("22: 998749", 998749 * 4 / 2500, x.verdict(4));
        due("22: no time", BumpsRiver.NONE, x.verdict(5));
        due("22: no such place", BumpsRiver.NONE, x.verdict(6));
        due("22: far behind", BumpsRiver.NONE, x.verdict(Integer.MAX_VALUE));
        fails("22: below 1, OVER", INDEX, () -> x.verdict(0));
        fails("22: far below 1", INDEX, () -> x.verdict(Integer.MIN_VALUE));
        BumpsRiver y = Scenes.withSeeds(2);
        y.draw();
        y.next();
        due("22: neither has a time", BumpsRiver.NONE, y.verdict(1));
        BumpsRiver z = Scenes.withSeeds(7);
        z.draw();
        z.time(0, 1000);
        z.time(1, 9000);
        z.next();
        fails("22: FINAL", STATE, () -> z.verdict(1));
        z.time(0, 2000);
        z.next();
        due("22: times of the final alone", BumpsRiver.NONE, z.verdict(1));
    }

    private static void promise23Head() {
        BumpsRiver x = Scenes.withCrews(24);
        CHECK.needsCrew("23: head", 24, x::head);
        for (int i = 0; i < 24; i++) {
            due("23: place " + i, i, x.head(23 - i));
        }
        fails("23: twice", STATE, () -> x.head(0));
        due("23: the last one begins at 345000", 0, x.finish(0, 345000));
    }

    private static void promise24Finish() {
        BumpsRiver x = Scenes.withCrews(4);
        x.head(2);
        x.head(1);
        x.head(0);
        CHECK.needsCrew("24: finish", 4, crew -> x.finish(crew, 1));
        CHECK.needsCrew("24: the crew first", 4, crew -> x.finish(crew, 0));
        fails("24: at 0", ARGUMENT, () -> x.finish(2, 0));
        fails("24: at 10000000", ARGUMENT, () -> x.finish(2, 10000000));
        fails("24: not in the head", STATE, () -> x.finish(3, 1));
        fails("24: the argument first", ARGUMENT, () -> x.finish(3, 0));
        fails("24: ahead of its beginning", STATE, () -> x.finish(1, 14999));
        due("24: at its beginning", 0, x.finish(1, 15000));
        due("24: the first one", 1, x.finish(2, 1));
        due("24: the third one", 9969999, x.finish(0, 9999999));
        due("24: in place of what was told", 70000, x.finish(0, 100000));
        fails("24: ahead of its beginning again", STATE, () -> x.finish(0, 29999));
        x.punish(0, 7);
        due("24: with penalties", 77000, x.finish(0, 100000));
    }

    private static void promise24Handicaps() {
        int[] byClass = {0, 3000, 6000, 10000};
        int[] ages = {15, 26, 27, 28, 80};
        int[] byAge = {0, 0, 0, 200, 10600};
        for (int sort = 0; sort < 4; sort++) {
            for (int k = 0; k < ages.length; k++) {
                BumpsRiver x = new BumpsRiver();
                x.crew(sort, ages[k]);
                x.head(0);
                due("24: class " + sort + ", age " + ages[k], 600000 - byClass[sort] - byAge[k], x.finish(0, 600000));
                due("24: below 0", 1 - byClass[sort] - byAge[k], x.finish(0, 1));
            }
        }
    }

    private static void promise25Punish() {
        BumpsRiver x = Scenes.withCrews(2);
        x.head(0);
        CHECK.needsCrew("25: punish", 2, crew -> x.punish(crew, 1));
        CHECK.needsCrew("25: the crew first", 2, crew -> x.punish(crew, 0));
        fails("25: 0 seconds", ARGUMENT, () -> x.punish(0, 0));
        fails("25: 61 seconds", ARGUMENT, () -> x.punish(0, 61));
        fails("25: not in the head", STATE, () -> x.punish(1, 1));
        fails("25: the argument first", ARGUMENT, () -> x.punish(1, 61));
        for (int i = 1; i < 10; i++) {
            due("25: all of them", 60 * i, x.punish(0, 60));
        }
        due("25: all but one", 599, x.punish(0, 59));
        fails("25: more than 600", STATE, () -> x.punish(0, 2));
        due("25: 600", 600, x.punish(0, 1));
        fails("25: more than 600 by one", STATE, () -> x.punish(0, 1));
        due("25: told ahead of the finish", 700000, x.finish(0, 100000));
    }

    private static void promise26Rank() {
        BumpsRiver x = Scenes.withHead(5);
        x.crew(0, 20);
        CHECK.needsCrew("26: rank", 6, x::rank);
        due("26: not finished", BumpsRiver.NONE, x.rank(0));
        due("26: not in the head", BumpsRiver.NONE, x.rank(5));
        x.finish(0, 100000);
        due("26: alone", 0, x.rank(0));
        BumpsRiver early = Scenes.withHead(1);
        early.finish(0, 1);
        due("26: the earliest finish", 0, early.rank(0));
        x.finish(1, 115000);
        x.finish(2, 129999);
        x.finish(3, 145001);
        due("26: alike", 1, x.rank(0));
        due("26: alike too", 1, x.rank(1));
        due("26: the best one", 0, x.rank(2));
        due("26: behind three", 3, x.rank(3));
        x.punish(2, 1);
        due("26: with a penalty", 2, x.rank(3));
        due("26: behind all", 3, x.rank(2));
        x.punish(4, 1);
        due("26: a penalty is no finish", BumpsRiver.NONE, x.rank(4));
        due("26: the best ones are alike", 0, x.rank(0) + x.rank(1));
    }

    private static void promise27Overtook() {
        BumpsRiver x = Scenes.withHead(5);
        x.crew(0, 20);
        CHECK.needsCrew("27: overtook", 6, x::overtook);
        due("27: not in the head", 0, x.overtook(5));
        x.finish(4, 500000);
        due("27: those ahead have not finished", 0, x.overtook(4));
        x.finish(0, 500001);
        x.finish(1, 500000);
        x.finish(2, 499999);
        due("27: one behind it", 1, x.overtook(4));
        due("27: alike is not behind", 1, x.overtook(1));
        due("27: two behind it", 2, x.overtook(2));
        due("27: not finished", 0, x.overtook(3));
        due("27: none began ahead", 0, x.overtook(0));
        x.punish(4, 60);
        due("27: penalties do not count", 1, x.overtook(4));
        x.finish(0, 400000);
        due("27: told anew", 0, x.overtook(4));
    }
}
