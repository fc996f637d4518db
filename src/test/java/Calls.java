/** A call of the program by its name; what it does not take of both arguments is left out. */
final class Calls {
    private Calls() {
    }

    static int call(BumpsRiver x, String method, int one, int other) {
        switch (method) {
            case "crew": return x.crew(one, other);
            case "enter": return x.enter(one);
            case "lapse": return x.lapse(one);
            case "division": return x.division(one);
            case "begin": return x.begin();
            case "contact": return x.contact(one);
            case "end": return x.end();
            case "penal": return x.penal(one, other);
            case "place": return x.place(one);
            case "placeAnew": return x.placeAnew(one);
            case "rows": return x.rows(one);
            case "chart": return x.chart(one, other);
            case "bumps": return x.bumps(one, other);
            case "seed": return x.seed(one);
            case "draw": return x.draw();
            case "lane": return x.lane(one, other);
            case "time": return x.time(one, other);
            case "next": return x.next();
            case "regatta": return x.regatta();
            case "result": return x.result(one);
            case "verdict": return x.verdict(one);
            case "head": return x.head(one);
            case "finish": return x.finish(one, other);
            case "punish": return x.punish(one, other);
            case "rank": return x.rank(one);
            case "overtook": return x.overtook(one);
            default: throw new UnsupportedOperationException(method);
        }
    }
}
