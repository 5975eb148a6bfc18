import java.util.NoSuchElementException;

/** One call by its name, of the class and of the model; an answer that throws is THROWN. */
final class Calls {
    static final long THROWN = Long.MIN_VALUE;
    static final String[] NAMES = {
        "sign", "end", "stable", "flies", "rule", "donkey", "thistles", "sow", "set", "sheet", "carrot",
        "eat", "minute", "minutes", "day", "undo", "struck", "took", "longest", "ahead", "when", "strikes",
        "stops", "eats", "owe", "tear", "due", "owes", "reading", "mildest", "leave", "sure", "missed",
        "bribe", "rests", "bid", "heard", "forget", "hungers", "ways", "swarms", "span", "apart", "together",
        "join", "shows", "egg", "plant", "keep", "again", "count", "row",
    };

    private Calls() {
    }

    static int arguments(String name) {
        switch (name) {
            case "stable", "flies", "rule", "eat", "minute", "day", "undo", "tear", "forget", "swarms":
                return 0;
            case "donkey", "thistles", "struck", "took", "ahead", "when", "strikes", "eats", "reading", "span", "together":
                return 2;
            case "sow", "set", "due", "owes", "leave", "bribe", "rests", "bid", "heard", "apart", "join", "shows", "egg", "plant":
                return 3;
            case "sheet", "carrot", "sure", "missed":
                return 4;
            case "owe":
                return 5;
            default:
                return 1;
        }
    }

    static long real(DonkeysHour x, String name, int[] a) {
        try {
            switch (name) {
                case "sign": return x.sign(a[0]);
                case "end": return x.end(a[0]) ? 1 : 0;
                case "stable": return x.stable();
                case "flies": return x.flies();
                case "rule": return x.rule();
                case "donkey": return x.donkey(a[0], a[1]);
                case "thistles": return x.thistles(a[0], a[1]);
                case "sow": return x.sow(a[0], a[1], a[2]);
                case "set": return x.set(a[0], a[1], a[2]);
                case "sheet": return x.sheet(a[0], a[1], a[2], a[3]);
                case "carrot": return x.carrot(a[0], a[1], a[2], a[3]);
                case "eat": return x.eat();
                case "minute": return x.minute();
                case "minutes": return x.minutes(a[0]);
                case "day": return x.day();
                case "undo": return x.undo();
                case "struck": return x.struck(a[0], a[1]);
                case "took": return x.took(a[0], a[1]);
                case "longest": return x.longest(a[0]);
                case "ahead": return x.ahead(a[0], a[1]);
                case "when": return x.when(a[0], a[1]);
                case "strikes": return x.strikes(a[0], a[1]);
                case "stops": return x.stops(a[0]);
                case "eats": return x.eats(a[0], a[1]);
                case "owe": return x.owe(a[0], a[1], a[2], a[3], a[4]);
                case "tear": return x.tear();
                case "due": return x.due(a[0], a[1], a[2]);
                case "owes": return x.owes(a[0], a[1], a[2]);
                case "reading": return x.reading(a[0], a[1]);
                case "mildest": return x.mildest(a[0]);
                case "leave": return x.leave(a[0], a[1], a[2]);
                case "sure": return x.sure(a[0], a[1], a[2], a[3]);
                case "missed": return x.missed(a[0], a[1], a[2], a[3]);
                case "bribe": return x.bribe(a[0], a[1], a[2]);
                case "rests": return x.rests(a[0], a[1], a[2]);
                case "bid": return x.bid(a[0], a[1], a[2]);
                case "heard": return x.heard(a[0], a[1], a[2]);
                case "forget": return x.forget();
                case "hungers": return x.hungers(a[0]);
                case "ways": return x.ways(a[0]);
                case "swarms": return x.swarms();
                case "span": return x.span(a[0], a[1]);
                case "apart": return x.apart(a[0], a[1], a[2]);
                case "together": return x.together(a[0], a[1]);
                case "join": return x.join(a[0], a[1], a[2]);
                case "shows": return x.shows(a[0], a[1], a[2]);
                case "egg": return x.egg(a[0], a[1], a[2]);
                case "plant": return x.plant(a[0], a[1], a[2]);
                case "keep": return x.keep(a[0]) ? 1 : 0;
                case "again": return x.again(a[0]) ? 1 : 0;
                case "count": return x.count(a[0]);
                case "row": return x.row(a[0]);
                default: throw new IllegalStateException(name);
            }
        } catch (NoSuchElementException e) {
            return THROWN;
        }
    }

    static long model(Model x, String name, int[] a) {
        try {
            switch (name) {
                case "sign": return x.sign(a[0]);
                case "end": return x.end(a[0]) ? 1 : 0;
                case "stable": return x.stable();
                case "flies": return x.flies();
                case "rule": return x.rule();
                case "donkey": return x.donkey(a[0], a[1]);
                case "thistles": return x.thistles(a[0], a[1]);
                case "sow": return x.sow(a[0], a[1], a[2]);
                case "set": return x.set(a[0], a[1], a[2]);
                case "sheet": return x.sheet(a[0], a[1], a[2], a[3]);
                case "carrot": return x.carrot(a[0], a[1], a[2], a[3]);
                case "eat": return x.eat();
                case "minute": return x.minute();
                case "minutes": return x.minutes(a[0]);
                case "day": return x.day();
                case "undo": return x.undo();
                case "struck": return x.struck(a[0], a[1]);
                case "took": return x.took(a[0], a[1]);
                case "longest": return x.longest(a[0]);
                case "ahead": return x.ahead(a[0], a[1]);
                case "when": return x.when(a[0], a[1]);
                case "strikes": return x.strikes(a[0], a[1]);
                case "stops": return x.stops(a[0]);
                case "eats": return x.eats(a[0], a[1]);
                case "owe": return x.owe(a[0], a[1], a[2], a[3], a[4]);
                case "tear": return x.tear();
                case "due": return x.due(a[0], a[1], a[2]);
                case "owes": return x.owes(a[0], a[1], a[2]);
                case "reading": return x.reading(a[0], a[1]);
                case "mildest": return x.mildest(a[0]);
                case "leave": return x.leave(a[0], a[1], a[2]);
                case "sure": return x.sure(a[0], a[1], a[2], a[3]);
                case "missed": return x.missed(a[0], a[1], a[2], a[3]);
                case "bribe": return x.bribe(a[0], a[1], a[2]);
                case "rests": return x.rests(a[0], a[1], a[2]);
                case "bid": return x.bid(a[0], a[1], a[2]);
                case "heard": return x.heard(a[0], a[1], a[2]);
                case "forget": return x.forget();
                case "hungers": return x.hungers(a[0]);
                case "ways": return x.ways(a[0]);
                case "swarms": return x.swarms();
                case "span": return x.span(a[0], a[1]);
                case "apart": return x.apart(a[0], a[1], a[2]);
                case "together": return x.together(a[0], a[1]);
                case "join": return x.join(a[0], a[1], a[2]);
                case "shows": return x.shows(a[0], a[1], a[2]);
                case "egg": return x.egg(a[0], a[1], a[2]);
                case "plant": return x.plant(a[0], a[1], a[2]);
                case "keep": return x.keep(a[0]) ? 1 : 0;
                case "again": return x.again(a[0]) ? 1 : 0;
                case "count": return x.count(a[0]);
                case "row": return x.row(a[0]);
                default: throw new IllegalStateException(name);
            }
        } catch (NoSuchElementException e) {
            return THROWN;
        }
    }
}
