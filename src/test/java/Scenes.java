/** What tests begin with, and calls that stand for many. */
final class Scenes {
    private Scenes() {
    }

    /** Crews without handicaps. */
    static BumpsRiver withCrews(int crews) {
        BumpsRiver x = new BumpsRiver();
        for (int i = 0; i < crews; i++) {
            x.crew(0, 20);
        }
        return x;
    }

    static BumpsRiver withChart(int crews, int places) {
        BumpsRiver x = withCrews(crews);
        for (int i = 0; i < crews; i++) {
            x.enter(i);
        }
        x.division(places);
        return x;
    }

    static BumpsRiver withSeeds(int crews) {
        BumpsRiver x = withCrews(crews);
        for (int i = 0; i < crews; i++) {
            x.seed(i);
        }
        return x;
    }

    /** In HEATS, without times. */
    static BumpsRiver withHeats(int crews) {
        BumpsRiver x = withSeeds(crews);
        x.draw();
        return x;
    }

    /** In FINAL, without times; of 7 crews or more, for one heat is the final. */
    static BumpsRiver withFinal(int crews) {
        BumpsRiver x = withHeats(crews);
        x.next();
        return x;
    }

    static BumpsRiver withHead(int crews) {
        BumpsRiver x = withCrews(crews);
        for (int i = 0; i < crews; i++) {
            x.head(i);
        }
        return x;
    }

    static void endDay(BumpsRiver x) {
        for (int i = 0; i < 8 && x.end() != BumpsRiver.NONE; i++) {
            continue;
        }
    }

    static void emptyDay(BumpsRiver x) {
        x.begin();
        endDay(x);
    }

    static void emptyDays(BumpsRiver x, int days) {
        for (int day = 0; day < days; day++) {
            emptyDay(x);
        }
    }

    /** A day on which this crew makes a bump in the last division, and no other one does. */
    static void risingDay(BumpsRiver x, int crew) {
        x.begin();
        x.contact(crew);
        endDay(x);
    }

    static void risingDays(BumpsRiver x, int crew, int days) {
        for (int day = 0; day < days; day++) {
            risingDay(x, crew);
        }
    }
}
