/** Edges of the lake. */
final class LakeEdges {
    private static final int NONE = BumpsRiver.NONE;

    private LakeEdges() {
    }

    /** Seven crews entered, crew 7 not: ENTERING. */
    private static BumpsRiver entering() {
        BumpsRiver x = Scenes.withCrews(8);
        for (int crew = 0; crew < 7; crew++) {
            x.seed(crew);
        }
        return x;
    }

    /** The same, drawn, and some have times: 0 3 4, and 1 2 5 6. */
    private static BumpsRiver heats() {
        BumpsRiver x = entering();
        x.draw();
        x.time(4, 300);
        x.time(6, 200);
        x.time(5, 100);
        return x;
    }

    /** The same, and FINAL: 5 6 4 0 1 3 by times of the heats; crew 2 is not in it. */
    private static BumpsRiver atTheFinal() {
        BumpsRiver x = heats();
        x.next();
        return x;
    }

    /** The same, and OVER: crew 1 is the first one, and the only one with a time. */
    private static BumpsRiver over() {
        BumpsRiver x = atTheFinal();
        x.time(1, 100);
        x.next();
        return x;
    }

    // ---- ahead of the promises

    @Says(promise = 0, words = "Divisions of numbers are rounded down, where nothing else is told.")
    static void roundedDown(Check check) {
        check.due("just short of 4 quarters", 3, verdictBy(2499));
        check.due("just short of 1 quarter", 0, verdictBy(624));
        BumpsRiver x = Scenes.withFinal(24);
        check.due("6 by 4 heats is 1: four first ones", NONE, x.lane(0, 1));
        check.due("and none more", NONE, x.lane(0, 6));
    }

    private static int verdictBy(int difference) {
        BumpsRiver x = Scenes.withHeats(2);
        x.time(0, 1);
        x.time(1, 1 + difference);
        x.next();
        return x.verdict(1);
    }

    @Says(promise = 0, words = "Crews are entered for the lake, the best seed first, at most 24")
    static void allAreEntered(Check check) {
        BumpsRiver x = Scenes.withCrews(24);
        for (int crew = 23; crew >= 0; crew--) {
            check.due("entered", 24 - crew, x.seed(crew));
        }
        check.due("heats", 4, x.draw());
        check.due("the best seed", 23, x.lane(0, 3));
        check.due("the worst one", 0, x.lane(0, 6));
    }

    @Says(promise = 0, words = "into as many heats as are needed with 6 lanes each")
    static void heatsByCrews(Check check) {
        for (int heats = 1; heats <= 4; heats++) {
            check.due("the most for " + heats, heats, Scenes.withSeeds(6 * heats).draw());
            check.due("one less than that for " + heats, heats, Scenes.withSeeds(6 * heats - 1).draw());
            int fewest = Math.max(2, 6 * heats - 5);
            check.due("the fewest for " + heats, heats, Scenes.withSeeds(fewest).draw());
        }
    }

    @Says(promise = 0, words = "from the first heat to the last, then from the last to the first, and so on")
    static void seedsTurnAtTheEnds(Check check) {
        BumpsRiver x = Scenes.withHeats(24);
        check.lanesAre("the first heat", x, 0, 16, 8, 0, 7, 15, 23);
        check.lanesAre("the second one", x, 1, 17, 9, 1, 6, 14, 22);
        check.lanesAre("the third one", x, 2, 18, 10, 2, 5, 13, 21);
        check.lanesAre("the last one", x, 3, 19, 11, 3, 4, 12, 20);
        BumpsRiver odd = Scenes.withHeats(13);
        check.lanesAre("one heat has one more", odd, 0, 12, 6, 0, 5, 11, NONE);
        check.lanesAre("than the second", odd, 1, NONE, 7, 1, 4, 10, NONE);
        check.lanesAre("and the third", odd, 2, NONE, 8, 2, 3, 9, NONE);
    }

    @Says(promise = 0, words = "In a heat the lanes are given by seeds: 3, 4, 2, 5, 1, 6.")
    static void lanesBySeeds(Check check) {
        check.lanesAre("a full heat", Scenes.withHeats(6), 0, 4, 2, 0, 1, 3, 5);
        check.lanesAre("five", Scenes.withHeats(5), 0, 4, 2, 0, 1, 3, NONE);
        check.lanesAre("two", Scenes.withHeats(2), 0, NONE, NONE, 0, 1, NONE, NONE);
    }

    @Says(promise = 0, words = "In a round each crew has a time, told, or none, which is behind all that have one.")
    static void withoutATime(Check check) {
        BumpsRiver x = Scenes.withHeats(6);
        check.due("the worst seed with the worst time", 0, x.time(5, 999999));
        check.due("the next one", 0, x.time(4, 999998));
        x.next();
        check.resultsAre("those without behind", x, 4, 5, 0, 1, 2, 3);
    }

    @Says(promise = 0, words = "Of two alike the better seed is ahead, but they are a dead heat.")
    static void twoAlike(Check check) {
        BumpsRiver x = Scenes.withCrews(3);
        x.seed(2);
        x.seed(1);
        x.seed(0);
        x.draw();
        check.due("alone", 0, x.time(0, 500));
        check.due("the better seed", 0, x.time(1, 500));
        check.due("the worse one", 1, x.time(0, 500));
        check.due("the best one", 0, x.time(2, 500));
        x.next();
        check.resultsAre("by seeds, not by numbers", x, 2, 1, 0);
        check.due("a dead heat", 0, x.verdict(1));
        check.due("and one more", 0, x.verdict(2));
    }

    @Says(promise = 0, words = "with one heat that was the final")
    static void oneHeat(Check check) {
        check.due("two crews", BumpsRiver.OVER, Scenes.withHeats(2).next());
        check.due("six crews", BumpsRiver.OVER, Scenes.withHeats(6).next());
        check.due("seven crews", BumpsRiver.FINAL, Scenes.withHeats(7).next());
    }

    @Says(promise = 0, words = "otherwise at most 6 go to the final")
    static void sixOfTwentyFour(Check check) {
        BumpsRiver x = Scenes.withHeats(24);
        for (int crew = 0; crew < 24; crew++) {
            x.time(crew, 1000 - crew);
        }
        x.next();
        // the first ones are 23 22 21 20; then of 16, 17, 18, 19 and all others the best two
        check.lanesAre("the final", x, 0, 19, 21, 23, 22, 20, 18);
        check.fails("the seventh", Check.STATE, () -> x.time(17, 1));
    }

    @Says(promise = 0, words = "of each heat so many of the first, with a time or not, as 6 by the number of heats")
    static void firstOnesWithoutTimes(Check check) {
        BumpsRiver two = Scenes.withHeats(12);
        for (int crew : new int[] {1, 2, 5, 6, 9, 10}) {
            two.time(crew, 107 - crew);
        }
        two.next();
        check.lanesAre("three of each of two", two, 0, 3, 6, 10, 9, 0, 4);
        BumpsRiver three = Scenes.withHeats(18);
        for (int crew : new int[] {1, 4, 7, 10, 13, 16}) {
            three.time(crew, 100 + crew);
        }
        three.next();
        check.lanesAre("two of each of three", three, 0, 3, 0, 1, 4, 2, 5);
        BumpsRiver four = Scenes.withHeats(24);
        four.time(23, 7);
        four.next();
        check.lanesAre("one of each of four", four, 0, NONE, 2, 23, 1, 3, NONE);
    }

    @Says(promise = 0, words = "of each heat so many of the first, with a time or not, as 6 by the number of heats")
    static void smallestHeats(Check check) {
        check.lanesAre("three of three and three of four", Scenes.withFinal(7), 0, 4, 2, 0, 1, 3, 5);
        check.lanesAre("two of four and of five", Scenes.withFinal(13), 0, 4, 2, 0, 1, 3, 5);
        check.lanesAre("one of four and of five", Scenes.withFinal(19), 0, NONE, 2, 0, 1, 3, NONE);
    }

    @Says(promise = 0, words = "those with the best times, that have one, of all heats, till there are 6")
    static void othersWithTimes(Check check) {
        BumpsRiver none = Scenes.withHeats(24);
        none.time(16, 999999);
        none.next();
        check.lanesAre("no other one has a time", none, 0, NONE, 2, 16, 1, 3, NONE);
        BumpsRiver one = Scenes.withHeats(24);
        one.time(16, 999998);
        one.time(23, 999999);
        one.next();
        check.lanesAre("one other has one", one, 0, 3, 1, 16, 23, 2, NONE);
        BumpsRiver three = Scenes.withHeats(24);
        three.time(0, 500);
        three.time(7, 600);
        three.time(8, 601);
        three.time(15, 602);
        three.next();
        check.lanesAre("three others of one heat have one", three, 0, 2, 8, 0, 7, 1, 3);
    }

    @Says(promise = 0, words = "those with the best times, that have one, of all heats, till there are 6")
    static void othersAlikeForTheLastLane(Check check) {
        BumpsRiver x = Scenes.withHeats(24);
        x.time(1, 100);
        x.time(9, 600);
        x.time(2, 100);
        x.time(10, 600);
        x.time(3, 100);
        x.time(11, 500);
        x.next();
        check.lanesAre("the better seed", x, 0, 9, 3, 1, 2, 11, 0);
    }

    @Says(promise = 0, words = "In the final the lanes are given by times of the heats, 3, 4, 2, 5, 1, 6, likewise by seeds.")
    static void lanesOfTheFinal(Check check) {
        check.lanesAre("by times, then by seeds", atTheFinal(), 0, 1, 4, 5, 6, 0, 3);
        BumpsRiver x = Scenes.withHeats(7);
        for (int crew = 0; crew < 7; crew++) {
            x.time(crew, 77);
        }
        x.next();
        check.lanesAre("all alike", x, 0, 4, 2, 0, 1, 3, 5);
    }

    @Says(promise = 0, words = "When the final ends, its places are the results.")
    static void timesOfTheFinalAlone(Check check) {
        BumpsRiver x = atTheFinal();
        x.next();
        check.resultsAre("no times in the final: by seeds", x, 0, 1, 3, 4, 5, 6);
        check.resultsAre("one has a time", over(), 1, 0, 3, 4, 5, 6);
    }

    @Says(promise = 0, words = "the difference of times times 4 by 2500; a dead heat is 0")
    static void quarters(Check check) {
        check.due("a dead heat", 0, verdictBy(0));
        check.due("the least difference", 0, verdictBy(1));
        check.due("a quarter", 1, verdictBy(625));
        check.due("short of two", 1, verdictBy(1249));
        check.due("two", 2, verdictBy(1250));
        check.due("a length", 4, verdictBy(2500));
        check.due("the greatest difference", 1599, verdictBy(999998));
    }

    // ---- 15: seed

    @Says(promise = 15, words = "Throws `IndexOutOfBoundsException` if there is no such crew")
    static void seedOfNoCrew(Check check) {
        check.refusedForNoCrew(LakeEdges::entering, 8, BumpsRiver::seed);
        check.refusedForNoCrew(LakeEdges::heats, 8, BumpsRiver::seed);
        check.refusedForNoCrew(LakeEdges::over, 8, BumpsRiver::seed);
    }

    @Says(promise = 15, words = "if it is entered, or the round is not ENTERING")
    static void seedTwice(Check check) {
        check.refused("the best seed", Check.STATE, LakeEdges::entering, x -> x.seed(0));
        check.refused("the worst one", Check.STATE, LakeEdges::entering, x -> x.seed(6));
    }

    @Says(promise = 15, words = "if it is entered, or the round is not ENTERING")
    static void seedTooLate(Check check) {
        check.refused("HEATS", Check.STATE, LakeEdges::heats, x -> x.seed(7));
        check.refused("FINAL", Check.STATE, LakeEdges::atTheFinal, x -> x.seed(7));
        check.refused("FINAL, one that is out", Check.STATE, LakeEdges::atTheFinal, x -> x.seed(2));
        check.refused("OVER", Check.STATE, LakeEdges::over, x -> x.seed(7));
        check.due("in time", 8, entering().seed(7));
    }

    @Says(promise = 15, words = "Returns how many there are then.")
    static void seedFirstAndLast(Check check) {
        check.due("the first one", 1, Scenes.withCrews(24).seed(23));
        BumpsRiver x = Scenes.withCrews(24);
        for (int crew = 0; crew < 23; crew++) {
            x.seed(crew);
        }
        check.due("the last one", 24, x.seed(23));
    }

    // ---- 16: draw

    @Says(promise = 16, words = "if the round is not ENTERING, or fewer than 2 are entered")
    static void drawTwice(Check check) {
        check.refused("HEATS", Check.STATE, LakeEdges::heats, BumpsRiver::draw);
        check.refused("FINAL", Check.STATE, LakeEdges::atTheFinal, BumpsRiver::draw);
        check.refused("OVER", Check.STATE, LakeEdges::over, BumpsRiver::draw);
    }

    @Says(promise = 16, words = "if the round is not ENTERING, or fewer than 2 are entered")
    static void drawTooFew(Check check) {
        check.refused("no crews", Check.STATE, BumpsRiver::new, BumpsRiver::draw);
        check.refused("none is entered", Check.STATE, () -> Scenes.withCrews(24), BumpsRiver::draw);
        check.refused("one is entered", Check.STATE, () -> Scenes.withSeeds(1), BumpsRiver::draw);
        check.due("two are entered", 1, Scenes.withSeeds(2).draw());
    }

    @Says(promise = 16, words = "the round is HEATS then")
    static void roundAfterTheDraw(Check check) {
        check.due("of two crews", BumpsRiver.HEATS, Scenes.withHeats(2).regatta());
        check.due("of 24 crews", BumpsRiver.HEATS, Scenes.withHeats(24).regatta());
    }

    // ---- 17: lane

    @Says(promise = 17, words = "if there is no such heat in this round")
    static void noSuchHeat(Check check) {
        for (int heat : new int[] {-1, 2, 4, Integer.MIN_VALUE, Integer.MAX_VALUE}) {
            check.refused("heat " + heat, Check.INDEX, LakeEdges::heats, x -> x.lane(heat, 3));
            check.refused("final " + heat, Check.INDEX, LakeEdges::atTheFinal, x -> x.lane(heat, 3));
        }
        check.due("the last one", 1, heats().lane(1, 3));
        check.due("the last one of four", 3, Scenes.withHeats(24).lane(3, 3));
        check.fails("one more than four", Check.INDEX, () -> Scenes.withHeats(24).lane(4, 3));
    }

    @Says(promise = 17, words = "the final is 0")
    static void oneFinal(Check check) {
        BumpsRiver x = Scenes.withFinal(24);
        check.due("the final", 0, x.lane(0, 3));
        check.fails("no second one", Check.INDEX, () -> x.lane(1, 3));
    }

    @Says(promise = 17, words = "in ENTERING and OVER there is none, or lane")
    static void noHeats(Check check) {
        for (int heat = 0; heat < 2; heat++) {
            int asked = heat;
            check.refused("ENTERING", Check.INDEX, LakeEdges::entering, x -> x.lane(asked, 3));
            check.refused("OVER", Check.INDEX, LakeEdges::over, x -> x.lane(asked, 3));
        }
        BumpsRiver x = Scenes.withHeats(2);
        x.next();
        check.fails("OVER, the one heat", Check.INDEX, () -> x.lane(0, 3));
    }

    @Says(promise = 17, words = "in ENTERING and OVER there is none, or lane")
    static void noSuchLane(Check check) {
        for (int lane : new int[] {0, 7, -1, 8, Integer.MIN_VALUE, Integer.MAX_VALUE}) {
            check.refused("lane " + lane, Check.INDEX, LakeEdges::heats, x -> x.lane(0, lane));
            check.refused("lane " + lane + " of the last heat", Check.INDEX, LakeEdges::heats, x -> x.lane(1, lane));
            check.refused("lane " + lane + " of the final", Check.INDEX, LakeEdges::atTheFinal, x -> x.lane(0, lane));
        }
    }

    @Says(promise = 17, words = "NONE if the lane is empty.")
    static void emptyLanes(Check check) {
        check.lanesAre("three crews", heats(), 0, NONE, 4, 0, 3, NONE, NONE);
        check.lanesAre("four crews", heats(), 1, NONE, 5, 1, 2, 6, NONE);
    }

    // ---- 18: time

    @Says(promise = 18, words = "Throws `IndexOutOfBoundsException` if there is no such crew")
    static void timeOfNoCrew(Check check) {
        check.refusedForNoCrew(LakeEdges::heats, 8, (x, crew) -> x.time(crew, 1));
        check.refusedForNoCrew(LakeEdges::heats, 8, (x, crew) -> x.time(crew, 0));
        check.refusedForNoCrew(LakeEdges::over, 8, (x, crew) -> x.time(crew, 1000000));
    }

    @Says(promise = 18, words = "1 to 999999")
    static void timeOutOfRange(Check check) {
        for (int time : new int[] {0, 1000000, -1, Integer.MIN_VALUE, Integer.MAX_VALUE}) {
            check.refused("time " + time, Check.ARGUMENT, LakeEdges::heats, x -> x.time(4, time));
            check.refused("time " + time + ", not entered", Check.ARGUMENT, LakeEdges::heats, x -> x.time(7, time));
            check.refused("time " + time + ", ENTERING", Check.ARGUMENT, LakeEdges::entering, x -> x.time(0, time));
            check.refused("time " + time + ", OVER", Check.ARGUMENT, LakeEdges::over, x -> x.time(0, time));
        }
        check.due("the least", 0, heats().time(3, 1));
        check.due("the greatest", 1, heats().time(3, 999999));
    }

    @Says(promise = 18, words = "Throws `IllegalStateException` if it does not race in this round")
    static void timeOfOneThatDoesNotRace(Check check) {
        check.refused("ENTERING", Check.STATE, LakeEdges::entering, x -> x.time(0, 1));
        check.refused("not entered", Check.STATE, LakeEdges::heats, x -> x.time(7, 1));
        check.refused("not in the final", Check.STATE, LakeEdges::atTheFinal, x -> x.time(2, 1));
        check.refused("not entered, FINAL", Check.STATE, LakeEdges::atTheFinal, x -> x.time(7, 1));
        check.refused("OVER", Check.STATE, LakeEdges::over, x -> x.time(1, 1));
        BumpsRiver x = Scenes.withHeats(2);
        x.next();
        check.fails("OVER, the one heat", Check.STATE, () -> x.time(0, 1));
        check.due("in the final", 0, atTheFinal().time(5, 1));
    }

    @Says(promise = 18, words = "Returns its place in its heat by times so far, from 0.")
    static void placesOfAFullHeat(Check check) {
        BumpsRiver x = Scenes.withHeats(12);
        int[] heat = {0, 3, 4, 7, 8, 11};
        for (int i = 0; i < 6; i++) {
            check.due("behind those so far", i, x.time(heat[i], 100 + i));
        }
        for (int i = 0; i < 6; i++) {
            check.due("ahead of all", 0, x.time(heat[i], 99 - i));
        }
        check.due("another heat", 0, x.time(10, 999999));
    }

    @Says(promise = 18, words = "Tells the time of a crew in this round, in place of one.")
    static void timeToldAgain(Check check) {
        BumpsRiver x = Scenes.withHeats(3);
        x.time(0, 500);
        check.due("behind", 1, x.time(1, 600));
        check.due("told better", 0, x.time(1, 400));
        check.due("told worse", 1, x.time(1, 501));
        check.due("told the same", 1, x.time(1, 501));
        x.next();
        check.resultsAre("the last that was told", x, 0, 1, 2);
    }

    // ---- 19: next

    @Says(promise = 19, words = "Throws `IllegalStateException` if the round is ENTERING or OVER")
    static void nextWithoutARound(Check check) {
        check.refused("ENTERING", Check.STATE, LakeEdges::entering, BumpsRiver::next);
        check.refused("ENTERING, none entered", Check.STATE, BumpsRiver::new, BumpsRiver::next);
        check.refused("OVER", Check.STATE, LakeEdges::over, BumpsRiver::next);
        BumpsRiver x = Scenes.withHeats(2);
        x.next();
        check.fails("OVER, the one heat", Check.STATE, x::next);
    }

    @Says(promise = 19, words = "Returns the round then.")
    static void roundsOneByOne(Check check) {
        BumpsRiver x = Scenes.withHeats(7);
        check.due("the final", BumpsRiver.FINAL, x.next());
        check.due("over", BumpsRiver.OVER, x.next());
        check.due("one heat", BumpsRiver.OVER, Scenes.withHeats(6).next());
    }

    // ---- 20: regatta

    @Says(promise = 20, words = "returns the round that was")
    static void roundThatWas(Check check) {
        BumpsRiver x = new BumpsRiver();
        check.due("nothing was", BumpsRiver.ENTERING, x.regatta());
        check.due("twice", BumpsRiver.ENTERING, x.regatta());
        check.due("ENTERING", BumpsRiver.ENTERING, entering().regatta());
        check.due("HEATS", BumpsRiver.HEATS, heats().regatta());
        check.due("FINAL", BumpsRiver.FINAL, atTheFinal().regatta());
        check.due("OVER", BumpsRiver.OVER, over().regatta());
    }

    @Says(promise = 20, words = "Begins a regatta anew, without crews, in ENTERING")
    static void nothingIsLeft(Check check) {
        BumpsRiver[] all = {entering(), heats(), atTheFinal(), over()};
        for (BumpsRiver x : all) {
            x.regatta();
            check.fails("no heats", Check.INDEX, () -> x.lane(0, 3));
            check.fails("no times", Check.STATE, () -> x.time(0, 1));
            check.fails("no round", Check.STATE, x::next);
            check.fails("no results", Check.STATE, () -> x.result(0));
            check.fails("no verdicts", Check.STATE, () -> x.verdict(1));
            check.fails("none is entered", Check.STATE, x::draw);
            check.due("the first one", 1, x.seed(6));
            check.due("the second one", 2, x.seed(0));
            check.due("one heat", 1, x.draw());
            check.lanesAre("two crews", x, 0, NONE, NONE, 6, 0, NONE, NONE);
            check.due("no times are left", 0, x.time(0, 999999));
            x.next();
            check.resultsAre("two crews", x, 0, 6);
            check.due("the other one has no time", NONE, x.verdict(1));
        }
    }

    @Says(promise = 20, words = "Begins a regatta anew, without crews, in ENTERING")
    static void secondFinal(Check check) {
        BumpsRiver x = Scenes.withHeats(24);
        for (int crew = 0; crew < 24; crew++) {
            x.time(crew, 100);
        }
        x.next();
        x.next();
        x.regatta();
        for (int crew = 23; crew >= 0; crew--) {
            x.seed(crew);
        }
        check.due("heats", 4, x.draw());
        x.next();
        check.lanesAre("nobody of the first one", x, 0, NONE, 21, 23, 22, 20, NONE);
        x.next();
        check.resultsAre("nobody of the first one", x, 23, 22, 21, 20);
    }

    // ---- 21: result

    @Says(promise = 21, words = "Throws `IndexOutOfBoundsException` if place is below 0")
    static void resultBelow(Check check) {
        for (int place : new int[] {-1, Integer.MIN_VALUE}) {
            check.refused("OVER", Check.INDEX, LakeEdges::over, x -> x.result(place));
            check.refused("ENTERING", Check.INDEX, LakeEdges::entering, x -> x.result(place));
            check.refused("HEATS", Check.INDEX, LakeEdges::heats, x -> x.result(place));
            check.refused("FINAL", Check.INDEX, LakeEdges::atTheFinal, x -> x.result(place));
        }
    }

    @Says(promise = 21, words = "Throws `IllegalStateException` if the round is not OVER")
    static void resultTooEarly(Check check) {
        for (int place : new int[] {0, 6, Integer.MAX_VALUE}) {
            check.refused("ENTERING", Check.STATE, LakeEdges::entering, x -> x.result(place));
            check.refused("HEATS", Check.STATE, LakeEdges::heats, x -> x.result(place));
            check.refused("FINAL", Check.STATE, LakeEdges::atTheFinal, x -> x.result(place));
        }
    }

    @Says(promise = 21, words = "NONE behind the last one.")
    static void resultBehindTheLastOne(Check check) {
        BumpsRiver six = over();
        check.due("the last one", 6, six.result(5));
        for (int place : new int[] {6, 7, 24, Integer.MAX_VALUE}) {
            check.due("behind six, " + place, NONE, six.result(place));
        }
        BumpsRiver four = Scenes.withFinal(24);
        four.next();
        check.due("the last one of four", 3, four.result(3));
        check.due("behind four", NONE, four.result(4));
        BumpsRiver two = Scenes.withHeats(2);
        two.next();
        check.due("the last one of two", 1, two.result(1));
        check.due("behind two", NONE, two.result(2));
    }

    // ---- 22: verdict

    @Says(promise = 22, words = "Throws `IndexOutOfBoundsException` if place is below 1")
    static void verdictBelow(Check check) {
        for (int place : new int[] {0, -1, Integer.MIN_VALUE}) {
            check.refused("OVER", Check.INDEX, LakeEdges::over, x -> x.verdict(place));
            check.refused("ENTERING", Check.INDEX, LakeEdges::entering, x -> x.verdict(place));
            check.refused("HEATS", Check.INDEX, LakeEdges::heats, x -> x.verdict(place));
            check.refused("FINAL", Check.INDEX, LakeEdges::atTheFinal, x -> x.verdict(place));
        }
    }

    @Says(promise = 22, words = "Throws `IllegalStateException` if the round is not OVER")
    static void verdictTooEarly(Check check) {
        for (int place : new int[] {1, 6, Integer.MAX_VALUE}) {
            check.refused("ENTERING", Check.STATE, LakeEdges::entering, x -> x.verdict(place));
            check.refused("HEATS", Check.STATE, LakeEdges::heats, x -> x.verdict(place));
            check.refused("FINAL", Check.STATE, LakeEdges::atTheFinal, x -> x.verdict(place));
        }
    }

    @Says(promise = 22, words = "NONE if one of both has no time, or there is no such place.")
    static void verdictWithoutTimes(Check check) {
        BumpsRiver x = over();
        check.due("the one behind has none", NONE, x.verdict(1));
        check.due("neither has one", NONE, x.verdict(2));
        check.due("neither of the last two has one", NONE, x.verdict(5));
    }

    @Says(promise = 22, words = "NONE if one of both has no time, or there is no such place.")
    static void verdictOfNoPlace(Check check) {
        BumpsRiver x = Scenes.withHeats(6);
        for (int crew = 0; crew < 6; crew++) {
            x.time(crew, 1000 * crew + 1);
        }
        x.next();
        check.due("the last place", 1, x.verdict(5));
        for (int place : new int[] {6, 7, 24, 25, Integer.MAX_VALUE}) {
            check.due("place " + place, NONE, x.verdict(place));
        }
        BumpsRiver two = Scenes.withHeats(2);
        two.time(0, 1);
        two.time(1, 1);
        two.next();
        check.due("the last place of two", 0, two.verdict(1));
        check.due("behind two", NONE, two.verdict(2));
    }
}
