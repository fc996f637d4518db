/** Edges of the head. */
final class HeadEdges {
    private static final int NONE = BumpsRiver.NONE;

    private HeadEdges() {
    }

    /** Three of the four crews in the order 2 1 0; crews 2 and 1 have finished, and crew 1 has a penalty. */
    private static BumpsRiver head() {
        BumpsRiver x = Scenes.withCrews(4);
        x.head(2);
        x.head(1);
        x.head(0);
        x.finish(2, 600000);
        x.finish(1, 600000);
        x.punish(1, 10);
        return x;
    }

    /** What counts of a crew alone, finishing at 100000. */
    private static int countsOf(int sort, int age) {
        BumpsRiver x = new BumpsRiver();
        x.crew(sort, age);
        x.head(0);
        return x.finish(0, 100000);
    }

    // ---- ahead of the promises

    @Says(promise = 0, words = "Crews are put into the order of a head, at most 24; the one at the place k begins at 15000 times k.")
    static void beginnings(Check check) {
        BumpsRiver x = Scenes.withHead(24);
        for (int crew = 0; crew < 24; crew++) {
            int began = 15000 * crew;
            check.due("crew " + crew, 9999999 - began, x.finish(crew, 9999999));
        }
        check.due("the last one, at its beginning", 0, x.finish(23, 345000));
        check.fails("ahead of it", Check.STATE, () -> x.finish(23, 344999));
    }

    @Says(promise = 0, words = "a handicap, 0, 3000, 6000 or 10000 by its class")
    static void handicapsByClass(Check check) {
        check.due("class 0", 100000, countsOf(0, 20));
        check.due("class 1", 97000, countsOf(1, 20));
        check.due("class 2", 94000, countsOf(2, 20));
        check.due("class 3", 90000, countsOf(3, 20));
    }

    @Says(promise = 0, words = "200 for each year of its age above 27")
    static void handicapsByAge(Check check) {
        check.due("15", 100000, countsOf(0, 15));
        check.due("26", 100000, countsOf(0, 26));
        check.due("27", 100000, countsOf(0, 27));
        check.due("28", 99800, countsOf(0, 28));
        check.due("29", 99600, countsOf(0, 29));
        check.due("80", 89400, countsOf(0, 80));
        check.due("both", 79400, countsOf(3, 80));
    }

    @Says(promise = 0, words = "What counts is the finish, less its beginning, less the handicap, and its penalties.")
    static void leastAndMostThatCounts(Check check) {
        BumpsRiver x = new BumpsRiver();
        x.crew(3, 80);
        x.crew(0, 27);
        x.head(0);
        x.head(1);
        check.due("below 0", -20599, x.finish(0, 1));
        check.due("0 of the other one", 0, x.finish(1, 15000));
        check.due("the least is ahead", 0, x.rank(0));
        check.due("of 0", 1, x.rank(1));
        for (int i = 0; i < 10; i++) {
            x.punish(1, 60);
        }
        check.due("the most", 10584999, x.finish(1, 9999999));
    }

    @Says(promise = 0, words = "The rank of a crew that finished is how many of these count less; 0 is the best one; alike ones have one rank.")
    static void ranksOfAll(Check check) {
        BumpsRiver alike = Scenes.withHead(24);
        BumpsRiver apart = Scenes.withHead(24);
        for (int crew = 0; crew < 24; crew++) {
            alike.finish(crew, 15000 * crew + 400000);
            apart.finish(crew, 500000);
        }
        for (int crew = 0; crew < 24; crew++) {
            check.due("all alike", 0, alike.rank(crew));
            check.due("each apart", 23 - crew, apart.rank(crew));
        }
        alike.punish(5, 1);
        check.due("behind all that are alike", 23, alike.rank(5));
    }

    // ---- 23: head

    @Says(promise = 23, words = "Throws `IndexOutOfBoundsException` if there is no such crew")
    static void headOfNoCrew(Check check) {
        check.refusedForNoCrew(HeadEdges::head, 4, BumpsRiver::head);
    }

    @Says(promise = 23, words = "Throws `IllegalStateException` if it is in it")
    static void headTwice(Check check) {
        check.refused("the first one", Check.STATE, HeadEdges::head, x -> x.head(2));
        check.refused("the last one", Check.STATE, HeadEdges::head, x -> x.head(0));
        check.refused("all are in it", Check.STATE, () -> Scenes.withHead(24), x -> x.head(23));
    }

    @Says(promise = 23, words = "Returns its place.")
    static void headEmptyAndFull(Check check) {
        BumpsRiver x = Scenes.withCrews(24);
        for (int place = 0; place < 24; place++) {
            check.due("place", place, x.head(23 - place));
        }
        check.due("behind three", 3, head().head(3));
    }

    // ---- 24: finish

    @Says(promise = 24, words = "Throws `IndexOutOfBoundsException` if there is no such crew")
    static void finishOfNoCrew(Check check) {
        check.refusedForNoCrew(HeadEdges::head, 4, (x, crew) -> x.finish(crew, 500000));
        check.refusedForNoCrew(HeadEdges::head, 4, (x, crew) -> x.finish(crew, 0));
    }

    @Says(promise = 24, words = "1 to 9999999")
    static void finishOutOfRange(Check check) {
        for (int at : new int[] {0, 10000000, -1, Integer.MIN_VALUE, Integer.MAX_VALUE}) {
            check.refused("at " + at, Check.ARGUMENT, HeadEdges::head, x -> x.finish(2, at));
            check.refused("at " + at + ", began later", Check.ARGUMENT, HeadEdges::head, x -> x.finish(0, at));
            check.refused("at " + at + ", not in the head", Check.ARGUMENT, HeadEdges::head, x -> x.finish(3, at));
        }
        check.due("the least", 1, head().finish(2, 1));
        check.due("the greatest", 9999999, head().finish(2, 9999999));
    }

    @Says(promise = 24, words = "if it is not in the head, or would finish ahead of its beginning")
    static void finishOfOneThatIsNotInTheHead(Check check) {
        check.refused("at 1", Check.STATE, HeadEdges::head, x -> x.finish(3, 1));
        check.refused("at 9999999", Check.STATE, HeadEdges::head, x -> x.finish(3, 9999999));
        check.refused("an empty head", Check.STATE, () -> Scenes.withCrews(24), x -> x.finish(0, 1));
    }

    @Says(promise = 24, words = "if it is not in the head, or would finish ahead of its beginning")
    static void finishAheadOfTheBeginning(Check check) {
        check.refused("by one", Check.STATE, HeadEdges::head, x -> x.finish(0, 29999));
        check.refused("by all", Check.STATE, HeadEdges::head, x -> x.finish(0, 1));
        check.refused("one that has finished", Check.STATE, HeadEdges::head, x -> x.finish(1, 14999));
        check.due("at the beginning", 0, head().finish(0, 30000));
        check.due("at the beginning, with a penalty", 10000, head().finish(1, 15000));
        check.due("the first one begins at 0", 1, head().finish(2, 1));
    }

    @Says(promise = 24, words = "Tells when a crew finished, in place of what was told.")
    static void finishToldAgain(Check check) {
        BumpsRiver x = head();
        check.due("later", 700000, x.finish(2, 700000));
        check.due("behind the other one", 1, x.rank(2));
        check.due("earlier", 500000, x.finish(2, 500000));
        check.due("ahead of the other one", 0, x.rank(2));
        check.due("with the penalties that stay", 595000, x.finish(1, 600000));
    }

    // ---- 25: punish

    @Says(promise = 25, words = "Throws `IndexOutOfBoundsException` if there is no such crew")
    static void punishNoCrew(Check check) {
        check.refusedForNoCrew(HeadEdges::head, 4, (x, crew) -> x.punish(crew, 1));
        check.refusedForNoCrew(HeadEdges::head, 4, (x, crew) -> x.punish(crew, 61));
    }

    @Says(promise = 25, words = "1 to 60")
    static void punishOutOfRange(Check check) {
        for (int seconds : new int[] {0, 61, -1, 600, Integer.MIN_VALUE, Integer.MAX_VALUE}) {
            check.refused(seconds + " seconds", Check.ARGUMENT, HeadEdges::head, x -> x.punish(1, seconds));
            check.refused(seconds + " seconds, not in it", Check.ARGUMENT, HeadEdges::head, x -> x.punish(3, seconds));
        }
        check.due("the least", 1, head().punish(0, 1));
        check.due("the greatest", 60, head().punish(0, 60));
    }

    @Says(promise = 25, words = "if it is not in the head, or would have more than 600")
    static void punishOneThatIsNotInTheHead(Check check) {
        check.refused("1 second", Check.STATE, HeadEdges::head, x -> x.punish(3, 1));
        check.refused("an empty head", Check.STATE, () -> Scenes.withCrews(24), x -> x.punish(0, 60));
    }

    @Says(promise = 25, words = "if it is not in the head, or would have more than 600")
    static void punishTooMuch(Check check) {
        check.refused("more by 59", Check.STATE, () -> punished(599), x -> x.punish(0, 60));
        check.refused("more by one", Check.STATE, () -> punished(599), x -> x.punish(0, 2));
        check.due("just 600", 600, punished(599).punish(0, 1));
        check.due("just 600 by 60", 600, punished(540).punish(0, 60));
        check.refused("600 and one", Check.STATE, () -> punished(600), x -> x.punish(0, 1));
        check.refused("541 and 60", Check.STATE, () -> punished(541), x -> x.punish(0, 60));
        BumpsRiver x = punished(600);
        check.due("another crew has its own", 60, x.punish(1, 60));
    }

    private static BumpsRiver punished(int seconds) {
        BumpsRiver x = Scenes.withHead(2);
        for (int given = 0; given < seconds; given += 60) {
            x.punish(0, Math.min(60, seconds - given));
        }
        return x;
    }

    @Says(promise = 25, words = "Returns all of them, in seconds.")
    static void allPenalties(Check check) {
        BumpsRiver x = head();
        check.due("the first one", 1, x.punish(0, 1));
        check.due("and one more", 61, x.punish(0, 60));
        check.due("ahead of the finish", 131000, x.finish(0, 100000));
        check.due("behind the finish", 70, x.punish(1, 60));
        check.due("they count", 655000, x.finish(1, 600000));
    }

    // ---- 26: rank

    @Says(promise = 26, words = "Throws `IndexOutOfBoundsException` if there is no such crew")
    static void rankOfNoCrew(Check check) {
        check.refusedForNoCrew(HeadEdges::head, 4, BumpsRiver::rank);
        check.refusedForNoCrew(() -> Scenes.withHead(24), 24, BumpsRiver::rank);
    }

    @Says(promise = 26, words = "NONE if it has not finished.")
    static void rankWithoutAFinish(Check check) {
        BumpsRiver x = head();
        check.due("not finished", NONE, x.rank(0));
        check.due("not in the head", NONE, x.rank(3));
        x.punish(0, 1);
        check.due("a penalty is no finish", NONE, x.rank(0));
        check.fails("a refused finish is none", Check.STATE, () -> x.finish(0, 1));
        check.due("still not finished", NONE, x.rank(0));
        x.finish(0, 30000);
        check.due("finished", 0, x.rank(0));
    }

    @Says(promise = 26, words = "Returns the rank of a crew in the head.")
    static void rankByOneThousandth(Check check) {
        BumpsRiver x = Scenes.withHead(2);
        x.finish(0, 100000);
        check.due("alone", 0, x.rank(0));
        x.finish(1, 115000);
        check.due("alike", 0, x.rank(0) + x.rank(1));
        x.finish(1, 115001);
        check.due("more by one", 1, x.rank(1));
        x.finish(1, 114999);
        check.due("less by one", 1, x.rank(0));
        check.due("the best one", 0, x.rank(1));
    }

    // ---- 27: overtook

    @Says(promise = 27, words = "Throws `IndexOutOfBoundsException` if there is no such crew")
    static void overtookOfNoCrew(Check check) {
        check.refusedForNoCrew(HeadEdges::head, 4, BumpsRiver::overtook);
        check.refusedForNoCrew(() -> Scenes.withHead(24), 24, BumpsRiver::overtook);
    }

    @Says(promise = 27, words = "that began ahead of it, and finished behind it")
    static void overtookWithoutAFinish(Check check) {
        BumpsRiver x = head();
        check.due("not in the head", 0, x.overtook(3));
        check.due("not finished", 0, x.overtook(0));
        BumpsRiver one = Scenes.withHead(2);
        one.finish(1, 15000);
        check.due("the one ahead has not finished", 0, one.overtook(1));
        check.due("the first one", 0, one.overtook(0));
    }

    @Says(promise = 27, words = "that began ahead of it, and finished behind it")
    static void overtookByOneThousandth(Check check) {
        BumpsRiver x = Scenes.withHead(2);
        x.finish(0, 100000);
        x.finish(1, 100000);
        check.due("at one moment", 0, x.overtook(1));
        x.finish(1, 99999);
        check.due("ahead by one", 1, x.overtook(1));
        x.finish(1, 100001);
        check.due("behind by one", 0, x.overtook(1));
        check.due("one that began behind it", 0, x.overtook(0));
    }

    @Says(promise = 27, words = "that began ahead of it, and finished behind it")
    static void overtookAll(Check check) {
        BumpsRiver x = Scenes.withHead(24);
        for (int crew = 0; crew < 24; crew++) {
            x.finish(crew, 345023 - crew);
        }
        for (int crew = 0; crew < 24; crew++) {
            check.due("crew " + crew, crew, x.overtook(crew));
        }
    }
}
