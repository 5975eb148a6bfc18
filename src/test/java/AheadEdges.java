/** Boundary cases of promises 21 to 34: MINUTES to come, CONTRACTS, FERRIES. */
final class AheadEdges {
    private static final String ONE = "stable '5:0000'";
    private static final String TWO = "stable '5:0000;5:00000'";
    private static final String TWELVE = "stable '5:000000000000'";
    /** On a ROUND of 4 it strikes in that MINUTE alone. */
    private static final String LAST = " | rule '(m=599)*4'";
    private static final String BEYOND = " | rule '(m=600)*4'";

    private AheadEdges() {
    }

    static void run() {
        ahead();
        when();
        strikes();
        stops();
        eats();
        owe();
        tear();
        due();
        laws();
        owes();
        reading();
        mildest();
        leave();
        sure();
        missed();
        missedBounds();
    }

    private static void ahead() {
        Edge.of(21, "n MINUTES (0 ..): none", ONE + " | ahead 0 0 ? 0 | rows 0 5 | ahead 0 -1 ~ -1",
            "ahead 0 -2147483648 ~ -1");
        Edge.of(21, "n MINUTES (.. 600)", ONE + " | ahead 0 600 ? 150 | rows 0 9 | ahead 0 601 ~ -1",
            "ahead 0 2147483647 ~ -1");
        Edge.of(21, "the next n MINUTES: the last one, too", ONE + " | ahead 0 3 ? 0 | rows 3 5 | ahead 0 4 ? 1",
            "rows 0 6" + LAST + " | ahead 0 600 ? 1 | ahead 0 599 ? 0" + BEYOND + " | ahead 0 600 ? 0");
        Edge.of(21, "NONE: others: DONKEYS", ONE + " | ahead 1 5 ~ -1 | ahead -1 5 ~ -1 | ahead 2147483647 5 ~ -1",
            "ahead 1 0 ~ -1");
        Edge.of(21, "NONE: no DONKEYS", "ahead 0 0 ~ -1");
        Edge.of(21, "go on from now", ONE + " | minutes 3 | ahead 0 1 ? 1 | rows 0 6");
        Edge.of(21, "HUNGER then: 9 at most, 0 at least", "stable '9:0000;1:0100' | ahead 0 600 ? 150 | rows 0 9",
            "ahead 1 1 ? 0 | rows 1 0");
    }

    private static void when() {
        Edge.of(22, "its k-th STROKE (1 .. 60)", ONE + " | when 0 1 ~ 4 | when 0 60 ~ 240 | when 0 0 ~ -1",
            "when 0 61 ~ -1 | when 0 2147483647 ~ -1 | when 0 -1 ~ -1");
        Edge.of(22, "After how many MINUTES (1 ..)", ONE + " | set 0 1 3 | when 0 1 ~ 1 | when 0 2 ~ 5 | rule '4'",
            "when 0 1 ~ 1 | when 0 60 ~ 60");
        Edge.of(22, "After how many MINUTES (.. 600). -2: not in these", ONE + LAST + " | when 0 1 ~ 600",
            "when 0 2 ~ -2" + BEYOND + " | when 0 1 ~ -2");
        Edge.of(22, "-2: not in these: of twelve PLACES", TWELVE + " | when 0 50 ~ 600 | when 0 51 ~ -2 | set 0 1 11",
            "when 0 50 ~ 589 | when 0 51 ~ -2 | set 0 1 10 | when 0 50 ~ 590");
        Edge.of(22, "-2: it stands", ONE + " | rule '0' | when 0 1 ~ -2 | when 0 60 ~ -2");
        Edge.of(22, "NONE is asked ahead of -2", ONE + " | rule '0' | when 0 61 ~ -1 | when 0 0 ~ -1",
            "when 1 1 ~ -1");
        Edge.of(22, "NONE: others: DONKEYS", ONE + " | when 1 1 ~ -1 | when -1 1 ~ -1 | when 2147483647 1 ~ -1");
        Edge.of(22, "from now on", ONE + " | minutes 7 | when 0 1 ~ 1 | when 0 2 ~ 5");
    }

    private static void strikes() {
        Edge.of(23, "an HOUR (0 .. 11)", ONE + " | strikes 0 1 ? 4 | rows 1 | strikes 0 11 ? 44 | rows 11",
            "strikes 0 -1 ~ -1 | strikes 0 12 ~ -1 | strikes 0 2147483647 ~ -1", "strikes 0 0 ? 48 | rows 12");
        Edge.of(23, "the HOUR that it shows already is struck last", ONE + " | minutes 20 | strikes 0 5 ? 48",
            "rows 12 | strikes 0 6 ? 4 | rows 1 | strikes 0 4 ? 44 | rows 11");
        Edge.of(23, "behind HOUR 11 comes 0", ONE + " | minutes 44 | strikes 0 0 ? 4 | rows 1 | strikes 0 11 ? 48",
            "rows 12 | minutes 4 | strikes 0 0 ? 48 | strikes 0 1 ? 4");
        Edge.of(23, "After how many MINUTES (1 ..)", ONE + " | set 0 1 3 | strikes 0 1 ? 1 | rows 1");
        Edge.of(23, "-2 likewise: not within 600", ONE + " | minutes 0" + LAST + " | strikes 0 1 ? 600 | rows 1",
            "strikes 0 2 ~ -2 | strikes 0 0 ~ -2" + BEYOND + " | strikes 0 1 ~ -2");
        Edge.of(23, "NONE is asked ahead of -2", ONE + " | rule '0' | strikes 0 1 ~ -2 | strikes 0 12 ~ -1",
            "strikes 0 -1 ~ -1 | strikes 1 1 ~ -1");
        Edge.of(23, "NONE likewise: DONKEYS", ONE + " | strikes 1 1 ~ -1 | strikes -1 1 ~ -1",
            "strikes -2147483648 1 ~ -1");
    }

    private static void stops() {
        Edge.of(24, "After how many MINUTES (0 ..)", ONE + " | rule '0' | stops 0 ~ 0 | rule 'm<1' | stops 0 ~ 1");
        Edge.of(24, "After how many MINUTES (.. 599)", ONE + " | rule 'm<598' | stops 0 ~ 598 | rule 'm<599'",
            "stops 0 ~ 599 | rule 'm<600' | stops 0 ~ -2");
        Edge.of(24, "to the 600th", ONE + " | rule 'm=599' | stops 0 ~ -2 | rule 'm=600' | stops 0 ~ 0",
            "rule 'm=598' | stops 0 ~ 599");
        Edge.of(24, "PACE 0 in all MINUTES from then on", ONE + " | rule '(m<10)+(m=300)' | stops 0 ~ 301",
            "rule '(m<10)-(m<5)' | stops 0 ~ 10");
        Edge.of(24, "PACE 0, not a THISTLE, makes it stand", "stable '9:9999' | rule 'm<20' | stops 0 ~ 20");
        Edge.of(24, "-2: it does not", ONE + " | stops 0 ~ -2 | rule '4' | stops 0 ~ -2");
        Edge.of(24, "NONE: none such", ONE + " | stops 1 ~ -1 | stops -1 ~ -1 | stops 2147483647 ~ -1",
            "stops -2147483648 ~ -1");
        Edge.of(24, "NONE: no DONKEYS", "stops 0 ~ -1");
        Edge.of(24, "go on from now", ONE + " | minutes 7 | rule 'm<20' | stops 0 ~ 13 | rule 'm<7' | stops 0 ~ 0",
            "rule 'm=606' | stops 0 ~ -2 | rule 'm=607' | stops 0 ~ 0");
    }

    private static void eats() {
        String some = "stable '5:0203;5:0000' | ";
        Edge.of(25, "n MINUTES (0 ..): none", some + "eats 0 0 ? 0 | rows -1 0 | eats 0 -1 ~ -1",
            "eats 0 -2147483648 ~ -1");
        Edge.of(25, "n MINUTES (.. 600)", some + "eats 0 600 ? 5 | rows 3 3 | eats 0 601 ~ -1",
            "eats 0 2147483647 ~ -1");
        Edge.of(25, "the next n MINUTES: the last one, too", "stable '5:0100' | rule 'm=599' | eats 0 600 ? 1",
            "rows 1 1 | eats 0 599 ? 0 | rule 'm=600' | eats 0 600 ? 0");
        Edge.of(25, "of equal ones the first", some + "eats 0 7 ? 4 | rows 1 2 | eats 0 3 ? 2 | rows 1 1");
        Edge.of(25, "the PLACE where it eats the most: 0, and the last", "stable '5:2001;5:100000000002'",
            "eats 0 600 ? 3 | rows 0 2 | eats 1 600 ? 3 | rows 11 2");
        Edge.of(25, "NONE: none", some + "eats 1 600 ? 0 | rows -1 0 | rule '0' | eats 0 600 ? 0 | rows -1 0");
        Edge.of(25, "NONE: others: DONKEYS", some + "eats 2 5 ~ -1 | eats -1 5 ~ -1 | eats 2147483647 5 ~ -1");
    }

    private static void owe() {
        Edge.of(26, "One of PEOPLE (0 .. 5)", ONE + " | owe -1 1 5 0 0 ~ -1 | owe 6 1 5 0 0 ~ -1",
            "owe 2147483647 1 5 0 0 ~ -1 | owe 0 1 5 0 0 = 0 | owe 5 1 5 0 0 = 1");
        Edge.of(26, "owes another one (0 .. 5)", ONE + " | owe 1 -1 5 0 0 ~ -1 | owe 1 6 5 0 0 ~ -1",
            "owe 1 -2147483648 5 0 0 ~ -1 | owe 1 0 5 0 0 = 0 | owe 1 5 5 0 0 = 1");
        Edge.of(26, "FROGS (1 .. 99)", ONE + " | owe 0 1 0 0 0 ~ -1 | owe 0 1 100 0 0 ~ -1 | owe 0 1 -1 0 0 ~ -1",
            "owe 0 1 1 0 0 = 0 | owe 0 1 99 0 0 = 1 | owe 0 1 2147483647 0 0 ~ -1");
        Edge.of(26, "by a DONKEY's HOUR (0 .. 11)", ONE + " | owe 0 1 5 0 -1 ~ -1 | owe 0 1 5 0 12 ~ -1",
            "owe 0 1 5 0 2147483647 ~ -1 | owe 0 1 5 0 0 = 0 | owe 0 1 5 0 11 = 1");
        Edge.of(26, "NONE: of no such DONKEY", TWO + " | owe 0 1 5 2 0 ~ -1 | owe 0 1 5 -1 0 ~ -1",
            "owe 0 1 5 2147483647 0 ~ -1 | owe 0 1 5 1 0 = 0");
        Edge.of(26, "NONE: no DONKEYS", "owe 0 1 5 0 0 ~ -1");
        Edge.of(26, "NONE: like ones", ONE + " | owe 0 0 5 0 0 ~ -1 | owe 5 5 5 0 0 ~ -1 | owe 6 6 5 0 0 ~ -1");
        Edge.of(26, "-2: 10 are there", ONE + " | 9x owe 0 1 5 0 0 | owe 0 1 5 0 0 = 9 | owe 0 1 5 0 0 ~ -2",
            "count 3 = 10");
        Edge.of(26, "NONE is asked ahead of -2", ONE + " | 10x owe 0 1 5 0 0 | owe 0 0 5 0 0 ~ -1",
            "owe 0 1 100 0 0 ~ -1 | owe 0 1 5 1 0 ~ -1 | owe 0 1 5 0 12 ~ -1");
        Edge.of(26, "the CONTRACT's number: 0 .., the tenth as well", ONE + " | 9x owe 0 1 5 0 0 | owe 2 3 7 0 1 = 9",
            "due 9 0 4 = 3 | owes 2 0 4 = 7");
    }

    private static void tear() {
        Edge.of(27, "how many there were: none", "tear ~ 0 | " + ONE + " | owe 0 1 5 0 0 | tear = 1 | tear ~ 0");
        Edge.of(27, "how many there were: ten", ONE + " | 10x owe 0 1 5 0 0 | tear = 10 | count 3 = 0",
            "owe 0 1 5 0 0 = 0");
        Edge.of(27, "void", ONE + " | owe 0 1 5 0 1 | tear | due 0 0 100 ~ -1 | owes 0 2 600 = 0 | rows 0",
            "reading 0 600 = 0 | rows 0 0 0 0");
    }

    private static void due() {
        String owing = " | owe 0 1 10 0 1";
        String anyLaw = " | due 0 0 1 ~ 0 | due 0 1 1 ~ 0 | due 0 2 1 ~ 0 | due 0 3 1 ~ 0";
        Edge.of(28, "n MINUTES (1 ..): the MINUTE 0", ONE + owing + " | rule '4'" + anyLaw + " | due 0 0 0 ~ -1",
            "due 0 0 -1 ~ -1");
        Edge.of(28, "n MINUTES (.. 600)", ONE + owing + LAST + " | due 0 0 600 ~ 599 | due 0 1 600 ~ 599",
            "due 0 3 600 ~ 599 | due 0 0 601 ~ -1 | due 0 0 2147483647 ~ -1");
        Edge.of(28, "MINUTES from one to another one, both counted", ONE + owing + " | due 0 0 4 ~ 3",
            "due 0 0 3 ~ -2 | due 0 1 4 ~ 3 | due 0 1 3 ~ -2 | due 0 2 3 ~ -2 | due 0 3 3 ~ -2");
        Edge.of(28, "-2: it is not, within 600", ONE + owing + BEYOND + " | due 0 0 600 ~ -2 | due 0 3 600 ~ -2",
            "rule '0' | due 0 2 600 ~ -2");
        Edge.of(28, "NONE: another CONTRACT", ONE + " | due 0 0 5 ~ -1" + owing + " | due 1 0 5 ~ -1",
            "due -1 0 5 ~ -1 | due 2147483647 0 5 ~ -1 | due 10 0 5 ~ -1");
        Edge.of(28, "NONE: another law", ONE + owing + " | due 0 4 100 ~ -1 | due 0 -1 100 ~ -1",
            "due 0 2147483647 100 ~ -1");
        Edge.of(28, "NONE is asked ahead of -2", ONE + owing + " | rule '0' | due 0 4 100 ~ -1 | due 0 0 0 ~ -1",
            "due 0 0 601 ~ -1 | due 1 0 5 ~ -1");
        Edge.of(28, "counted from now", ONE + owing + " | minutes 3 | due 0 0 1 ~ 0 | minute | due 0 0 48 ~ 47",
            "due 0 0 47 ~ -2");
    }

    private static void laws() {
        String owing = ONE + " | owe 0 1 10 0 1 | ";
        Edge.of(28, "law 0: the first time", owing + "due 0 0 52 ~ 3 | due 0 0 100 ~ 3 | due 0 0 51 ~ 3");
        Edge.of(28, "law 1: the last time", owing + "due 0 1 51 ~ 3 | due 0 1 52 ~ 51 | due 0 1 99 ~ 51",
            "due 0 1 100 ~ 99");
        Edge.of(28, "law 2: each time; of law 2 the first time", owing + "due 0 2 51 ~ 3 | due 0 2 100 ~ 3");
        Edge.of(28, "law 3: never, if it is struck more than once, else that time", owing + "due 0 3 4 ~ 3",
            "due 0 3 51 ~ 3 | due 0 3 52 ~ -2 | due 0 3 600 ~ -2");
        Edge.of(28, "HOUR 0 is struck, not shown", ONE + " | owe 0 1 10 0 0 | rule '4' | due 0 0 11 ~ -2",
            "due 0 0 12 ~ 11 | minutes 12 | due 0 0 11 ~ -2 | due 0 0 12 ~ 11");
        Edge.of(28, "HOUR 11 is struck", ONE + " | owe 0 1 10 0 11 | rule '4' | due 0 0 10 ~ -2 | due 0 0 11 ~ 10",
            "due 0 1 23 ~ 22");
    }

    private static void owes() {
        Edge.of(29, "one: of PEOPLE 0 .. 5", ONE + " | owe 0 5 10 0 1 | owe 5 0 7 0 1 | owes 0 0 4 ? 10 | rows 7",
            "owes 5 0 4 ? 7 | rows 10 | owes 6 0 4 ~ -1 | owes -1 0 4 ~ -1", "owes 2147483647 0 4 ~ -1");
        Edge.of(29, "by a law: 0 .. 3", ONE + " | owe 0 1 10 0 1 | owes 0 0 52 ? 10 | owes 0 1 52 ? 10",
            "owes 0 2 52 ? 20 | owes 0 3 52 ? 0 | owes 0 4 52 ~ -1 | owes 0 -1 52 ~ -1");
        Edge.of(29, "in that DAY: n (1 ..)", ONE + " | owe 0 1 10 0 1 | owes 0 0 3 ? 0 | owes 0 0 0 ~ -1",
            "owes 0 0 -1 ~ -1 | rule '4' | owes 0 0 1 ? 10");
        Edge.of(29, "in that DAY: n (.. 600)", ONE + " | owe 0 1 10 0 1" + LAST + " | owes 0 3 600 ? 10",
            "owes 0 3 599 ? 0 | owes 0 3 601 ~ -1" + BEYOND + " | owes 0 3 600 ? 0");
        Edge.of(29, "law 3: never, if it is struck more than once", ONE + " | owe 0 1 10 0 1 | owes 0 3 51 ? 10",
            "owes 1 3 51 ? 0 | rows 10 | owes 0 3 52 ? 0 | owes 1 3 52 ? 0 | rows 0");
        Edge.of(29, "by law 2 each time: of ten CONTRACTS", ONE + " | rule '4' | 10x owe 0 1 99 0 1",
            "owes 0 2 600 ? 49500 | owes 1 2 600 ? 0 | rows 49500");
        Edge.of(29, "of no CONTRACTS, of no DONKEYS", "owes 0 0 1 ? 0 | rows 0 | owes 5 3 600 ? 0 | rows 0");
        Edge.of(29, "NONE: the ROW stays", ONE + " | owe 0 1 10 0 1 | owes 1 2 100 | rows 30 | owes 1 4 100 ~ -1",
            "rows 30");
    }

    private static void reading() {
        String both = TWO + " | owe 0 1 4 0 1 | owe 1 0 5 1 1 | ";
        Edge.of(30, "of equal ones the first: all", ONE + " | owe 0 1 10 0 1 | reading 0 51 ? 0 | rows 10 10 10 10",
            "reading 0 3 ? 0 | rows 0 0 0 0");
        Edge.of(30, "of equal ones the first: laws 0 and 1", both + "reading 0 100 ? 0 | rows -1 -1 2 0");
        Edge.of(30, "may be below 0", ONE + " | owe 1 0 10 0 1 | reading 0 100 ? 2 | rows -10 -10 -30 0");
        Edge.of(30, "the law is neither the first nor the last", TWO + " | owe 0 1 6 1 1 | owe 1 0 5 0 1",
            "reading 0 100 ? 2 | rows 1 1 -3 0");
        Edge.of(30, "the law is the last one", ONE + " | owe 0 1 10 0 1 | reading 0 52 ? 3 | rows 10 10 20 0");
        Edge.of(30, "NONE: others: PEOPLE", ONE + " | owe 5 0 10 0 1 | reading 6 52 ~ -1 | reading -1 52 ~ -1",
            "reading 2147483647 52 ~ -1 | reading 5 52 ? 3 | reading 0 52 ? 2");
        Edge.of(30, "NONE: others: n (1 .. 600)", ONE + " | owe 0 1 10 0 1 | rule '4' | reading 0 0 ~ -1",
            "reading 0 601 ~ -1 | reading 0 -1 ~ -1 | reading 0 1 ? 0 | rows 10 10 10 10", "reading 0 600 ? 3",
            "rows 10 10 500 0");
        Edge.of(30, "who owes nothing, and of no DONKEYS", "reading 0 1 ? 0",
            "rows 0 0 0 0 | " + ONE + " | owe 0 1 10 0 1 | reading 4 600 ? 0 | rows 0 0 0 0");
    }

    private static void mildest() {
        Edge.of(31, "one of PEOPLE: the first", ONE + " | owe 0 1 10 0 1 | mildest 52 ? 3 | rows 0");
        Edge.of(31, "one of PEOPLE: the last", ONE + " | owe 5 1 10 0 1 | mildest 52 ? 3 | rows 0 | mildest 51 ? 0",
            "rows 10");
        for (int person = 0; person < 6; person++) {
            Edge.of(31, "one of PEOPLE 0 .. 5: " + person,
                ONE + " | owe " + person + " " + (person + 1) % 6 + " 10 0 1 | mildest 51 ? 0 | rows 10",
                "mildest 52 ? 3 | rows 0");
        }
        Edge.of(31, "the law is neither the first nor the last", ONE + " | owe 0 1 10 0 2 | owe 1 0 10 0 1",
            "owe 0 1 10 0 3 | mildest 53 ? 2 | rows 0");
        Edge.of(31, "of equal ones the first", ONE + " | mildest 600 ? 0 | rows 0 | owe 0 1 10 0 1 | mildest 51 ? 0",
            "rows 10 | mildest 3 ? 0 | rows 0");
        Edge.of(31, "less what it is owed", ONE + " | owe 0 1 10 0 1 | owe 1 0 10 0 1 | mildest 52 ? 0 | rows 0",
            "owe 2 0 3 0 1 | mildest 52 ? 3 | mildest 51 ? 0 | rows 3");
        Edge.of(31, "NONE: another n", ONE + " | owe 0 1 10 0 1 | rule '4' | mildest 0 ~ -1 | mildest 601 ~ -1",
            "mildest -2147483648 ~ -1 | mildest 1 ? 0 | rows 10 | mildest 600 ? 3 | rows 0");
        Edge.of(31, "of no CONTRACTS, of no DONKEYS", "mildest 1 ? 0 | rows 0 | mildest 600 ? 0 | rows 0",
            "mildest 601 ~ -1");
    }

    private static void leave() {
        Edge.of(32, "A FERRY goes in a MINUTE (1 ..)", ONE + " | leave 0 0 0 ~ -1 | leave 0 -1 0 ~ -1",
            "leave 0 1 0 ? 0 | rows 1 | set 0 1 3 | leave 0 1 0 ? 1 | rows 0");
        Edge.of(32, "A FERRY goes in a MINUTE (.. 600)", ONE + " | leave 0 601 0 ~ -1 | leave 0 2147483647 0 ~ -1",
            "leave 0 600 0 ? 150 | rows 0");
        Edge.of(32, "takes w MINUTES (0 .. 99)", ONE + " | leave 0 600 -1 ~ -1 | leave 0 600 100 ~ -1",
            "leave 0 600 2147483647 ~ -1 | leave 0 600 99 ? 125 | rows 1 | leave 0 4 0 ? 1 | rows 0");
        Edge.of(32, "there from MINUTE m + w + 1 on: in its MINUTE", ONE + " | leave 0 6 2 ? 1 | rows 0",
            "leave 0 5 2 ? 0 | rows 3 | leave 0 10 2 ? 2 | rows 0 | leave 0 9 2 ? 1 | rows 3");
        Edge.of(32, "who leaves now from MINUTE w on", ONE + " | leave 0 2 2 ? 0 | rows 0 | leave 0 3 2 ? 0",
            "rows 1");
        Edge.of(32, "-2: not even now", ONE + " | leave 0 2 2 ? 0 | leave 0 1 2 ~ -2 | leave 0 98 99 ~ -2",
            "leave 0 99 99 ? 0");
        Edge.of(32, "NONE is asked ahead of -2", ONE + " | leave 0 1 2 ~ -2 | leave 0 1 100 ~ -1 | leave 1 1 2 ~ -1",
            "leave 0 0 2 ~ -1");
        Edge.of(32, "NONE: others: DONKEYS", ONE + " | leave 1 9 0 ~ -1 | leave -1 9 0 ~ -1",
            "leave -2147483648 9 0 ~ -1");
        Edge.of(32, "the latest STROKE: of none", ONE + " | rule '0' | leave 0 600 0 ? 0 | rows 600");
        Edge.of(32, "the latest STROKE: each MINUTE one", ONE + " | rule '4' | leave 0 600 0 ? 600 | rows 0",
            "leave 0 1 1 ? 0 | rows 0");
    }

    private static void sure() {
        Edge.of(33, "with HUNGER 0 .. 9: with 0 alone", ONE + " | rule '(h=0)*3+1' | sure 0 1 0 1 ? 1 | rows 1",
            "sure 0 1 0 2 ? 0 | rows 10");
        Edge.of(33, "with HUNGER 0 .. 9: with 9 alone", ONE + " | rule '(h=9)*3+1' | sure 0 1 0 1 ? 1 | rows 1",
            "sure 0 1 0 2 ? 0 | rows 10");
        Edge.of(33, "in t of them (1 .. 10) or more", ONE + " | rule '4' | sure 0 9 0 10 ? 9 | rows 10",
            "sure 0 9 0 1 ? 9 | rows 10 | sure 0 9 0 0 ~ -1 | sure 0 9 0 11 ~ -1 | sure 0 9 0 -1 ~ -1",
            "sure 0 9 0 2147483647 ~ -1");
        Edge.of(33, "in t of them or more: nine", ONE + " | rule 'h' | sure 0 4 0 9 ? 1 | rows 9 | sure 0 4 0 10 ? 0",
            "rows 10");
        Edge.of(33, "the latest: more are there for one that is ahead of it", ONE + " | rule 'h/5+1'",
            "sure 0 4 0 5 ? 2 | rows 5 | sure 0 4 0 6 ? 1 | rows 10");
        Edge.of(33, "-2 likewise: not even now", ONE + " | sure 0 2 2 10 ? 0 | rows 10 | sure 0 1 2 1 ~ -2",
            "sure 0 98 99 10 ~ -2");
        Edge.of(33, "NONE is asked ahead of -2", ONE + " | sure 0 1 2 1 ~ -2 | sure 0 1 2 0 ~ -1",
            "sure 0 1 2 11 ~ -1 | sure 0 1 100 1 ~ -1 | sure 1 1 2 1 ~ -1");
        Edge.of(33, "NONE likewise: a MINUTE (1 .. 600)", ONE + " | sure 0 0 0 1 ~ -1 | sure 0 601 0 1 ~ -1",
            "sure 0 1 0 1 ? 0 | rows 10 | sure 0 600 0 1 ? 150 | rows 10");
        Edge.of(33, "NONE likewise: w (0 .. 99)", ONE + " | sure 0 600 -1 1 ~ -1 | sure 0 600 100 1 ~ -1",
            "sure 0 600 99 1 ? 125 | rows 10 | sure 0 4 0 1 ? 1 | rows 10");
        Edge.of(33, "NONE likewise: DONKEYS", ONE + " | sure 1 9 0 1 ~ -1 | sure -1 9 0 1 ~ -1",
            "sure 2147483647 9 0 1 ~ -1");
    }

    private static void missed() {
        Edge.of(34, "in MINUTES d, 2 d, .. up to 600: the last goes in 600", ONE + LAST + " | missed 0 120 1 0 ? 4",
            "rows 0 | missed 0 100 1 0 ? 5 | rows 0");
        Edge.of(34, "in MINUTES d, 2 d, .. up to 600: the last goes ahead of it",
            ONE + LAST + " | missed 0 119 1 0 ? 5 | rows 1 | missed 0 7 1 0 ? 85 | rows 1");
        Edge.of(34, "of those in the next 600 MINUTES", ONE + BEYOND + " | missed 0 120 1 0 ? 5 | rows 0");
        Edge.of(34, "there a MINUTE behind the last FERRY: takes none", ONE + LAST + " | missed 0 120 1 1 ? 5",
            "rows 1");
        Edge.of(34, "the first FERRY that goes when it is there", ONE + " | rule '(m=9)*4' | missed 0 10 1 0 ? 59",
            "rows 0 | missed 0 5 1 90 ? 119 | rows 0", "rule '(m=589)*4' | missed 0 10 1 10 ? 59 | rows 0",
            "missed 0 10 1 11 ? 60 | rows 1");
        Edge.of(34, "or later", ONE + " | rule '(m=580)*4' | missed 0 10 1 0 ? 59 | rows 0 | missed 0 10 1 10 ? 59",
            "rows 0 | missed 0 10 1 19 ? 59 | rows 0 | missed 0 10 1 20 ? 60 | rows 1");
        Edge.of(34, "two who take one FERRY", ONE + " | rule '4*(m<2)' | missed 0 10 1 0 ? 59 | rows 0",
            "missed 0 1 1 0 ? 598 | rows 0");
        Edge.of(34, "nobody leaves", ONE + " | rule '0' | missed 0 120 1 0 ? 5 | rows 0 | missed 0 1 12 99 ? 600",
            "rows 0");
        Edge.of(34, "on each k-th STROKE: k is more than there are", ONE + " | rule '(m<44)' | missed 0 120 11 0 ? 4",
            "rows 0 | missed 0 120 12 0 ? 5 | rows 0");
    }

    private static void missedBounds() {
        Edge.of(34, "each d MINUTES (1 .. 120)", ONE + " | missed 0 0 1 0 ~ -1 | missed 0 121 1 0 ~ -1",
            "missed 0 -1 1 0 ~ -1 | missed 0 -2147483648 1 0 ~ -1 | missed 0 1 1 0 ? 450", "missed 0 120 1 0 ? 0");
        Edge.of(34, "on each k-th STROKE (1 .. 12)", ONE + " | missed 0 10 0 0 ~ -1 | missed 0 10 13 0 ~ -1",
            "missed 0 10 2147483647 0 ~ -1 | missed 0 10 1 0 ? 0 | rows 0 | missed 0 10 12 0 ? 48 | rows 0");
        Edge.of(34, "with a way of w (0 .. 99)", ONE + " | missed 0 10 1 -1 ~ -1 | missed 0 10 1 100 ~ -1",
            "missed 0 10 1 2147483647 ~ -1 | missed 0 4 1 0 ? 0 | missed 0 120 1 99 ? 0 | rows 25");
        Edge.of(34, "NONE: others: DONKEYS", ONE + " | missed 1 10 1 0 ~ -1 | missed -1 10 1 0 ~ -1",
            "missed 2147483647 10 1 0 ~ -1");
    }
}
