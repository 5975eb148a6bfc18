/** Boundary cases of promises 35 to 53: CARROTS thought of, what was heard, two clocks, eggs, noon, what is kept. */
final class LaterEdges {
    private static final String ONE = "stable '5:0000'";
    private static final String LIKE = "stable '5:0000;5:0000'";
    private static final String TWO = "stable '5:0000;5:00000'";
    /** On a ROUND of 4 it strikes in that MINUTE alone. */
    private static final String LAST = " | rule '(m=599)*4'";
    private static final String BEYOND = " | rule '(m=600)*4'";

    private LaterEdges() {
    }

    static void run() {
        bribe();
        bribeFar();
        rests();
        restsFar();
        bid();
        heard();
        forget();
        hungers();
        ways();
        swarms();
        span();
        apart();
        together();
        join();
        shows();
        egg();
        plant();
        keep();
        again();
        count();
        row();
    }

    private static void bribe() {
        String c = ONE + " | rule '1+c' | ";
        Edge.of(35, "a CARROT of n MINUTES (1 .. 20)", c + "bribe 0 1 -1 ? 4 | rows 5 4 | bribe 0 20 -1 ? 4",
            "rows 24 4 | bribe 0 0 -1 ~ -1 | bribe 0 21 -1 ~ -1 | bribe 0 -1 -1 ~ -1", "bribe 0 2147483647 -1 ~ -1");
        Edge.of(35, "how -1: holding; 1: hurrying", c + "bribe 0 4 -1 ? 4 | rows 8 4 | bribe 0 4 1 ? 0 | rows 2 4",
            "bribe 0 4 0 ~ -1 | bribe 0 4 2 ~ -1 | bribe 0 4 -2 ~ -1");
        Edge.of(35, "NONE: others: DONKEYS", c + "bribe 1 4 1 ~ -1 | bribe -1 4 1 ~ -1 | bribe 2147483647 4 1 ~ -1");
        Edge.of(35, "of as good ones the first", ONE + " | bribe 0 4 -1 ? 0 | rows 4 4 | bribe 0 4 1 ? 0 | rows 4 4",
            "rule '1+c' | bribe 0 1 1 ? 3 | rows 3 4");
        Edge.of(35, "those that are there stay, ten as well", c + "10x carrot 0 4 4 -1 | bribe 0 1 -1 ? 5 | rows 6 5",
            "count 2 = 10");
        Edge.of(35, "no more than one is thought of: nothing of it stays", c + "bribe 0 20 -1 ? 4 | rows 24 4",
            "when 0 2 = 8 | bribe 0 1 -1 ? 4 | rows 5 4 | bid 0 1 4 = 0");
        Edge.of(35, "counted from now", c + "minutes 5 | bribe 0 4 -1 ? 3 | rows 8 4");
    }

    private static void bribeFar() {
        Edge.of(35, "The MINUTE (0 ..)", ONE + " | rule '4-(c=1)*3' | bribe 0 1 -1 ? 0 | rows 1 1 | rule '4*c'",
            "bribe 0 2 1 ? 0 | rows 1 601");
        Edge.of(35, "The MINUTE (.. 60)", ONE + " | rule '(m<4)+4*c*(m=60)' | bribe 0 1 1 ? 60 | rows 57 601",
            "rule '(m<4)+4*c*(m=61)' | bribe 0 1 1 ? 0 | rows 601 601");
        Edge.of(35, "The MINUTE (.. 60): from which on, n MINUTES", ONE + " | rule '(m<4)+4*c*(m=61)'",
            "bribe 0 2 1 ? 60 | rows 58 601 | rule '(m<4)+4*c*(m=62)' | bribe 0 2 1 ? 0 | rows 601 601",
            "rule '(m<4)+4*c*(m=79)' | bribe 0 20 1 ? 60 | rows 76 601 | rule '(m<4)+4*c*(m=80)' | bribe 0 20 1 ? 0",
            "rows 601 601");
        Edge.of(35, "601, if it does not end within 600 MINUTES", ONE + " | rule '(m<4)+4*(m=599)' | bribe 0 1 1 ? 0",
            "rows 596 596 | rule '(m<4)+4*(m=600)' | bribe 0 1 1 ? 0 | rows 601 601");
        Edge.of(35, "601: it does not begin", ONE + " | rule '0' | bribe 0 1 1 ? 0 | rows 601 601",
            "bribe 0 20 -1 ? 0 | rows 601 601");
        Edge.of(35, "601 is longer than any", ONE + " | rule '(m<8)*(1+c)' | bribe 0 1 -1 ? 0 | rows 601 4",
            "rule '(m<4)+4*(m=599)*(1+c)' | bribe 0 1 1 ? 0 | rows 596 596");
    }

    private static void rests() {
        String c = ONE + " | rule '1+c' | ";
        Edge.of(36, "m turns (0 .. 20) at most: none", c + "rests 0 2 0 ? 0 | rows 0 0 0 4 | rests 0 2 -1 ~ -1",
            "rests 0 2 -2147483648 ~ -1");
        Edge.of(36, "m turns (0 .. 20) at most: twenty", ONE + " | rule '2+c' | rests 0 4 20 ? 20 | rows 0 2 0 1",
            "rests 0 4 21 ~ -1 | rests 0 4 2147483647 ~ -1");
        Edge.of(36, "by turns, 0 first", c + "rests 0 2 1 ? 1 | rows 0 2 0 6 | rests 0 2 2 ? 2 | rows 0 2 5 2");
        Edge.of(36, "till two turns behind one another change nothing", c + "rests 0 2 4 ? 4 | rows 0 4 5 4",
            "rests 0 2 5 ? 5 | rows 1 4 5 4 | rests 0 2 20 ? 5 | rows 1 4 5 4");
        Edge.of(36, "two turns behind one another, not two in all", ONE + " | rule '(m<4)+4*(m=30)*(c>0)'",
            "rests 0 1 4 ? 4 | rows 0 30 30 601 | rests 0 1 20 ? 5 | rows 1 30 30 601");
        Edge.of(36, "two turns: the first two", ONE + " | rests 0 2 1 ? 1 | rows 0 0 0 4 | rests 0 2 2 ? 2",
            "rows 1 0 0 4 | rests 0 2 20 ? 2 | rows 1 0 0 4");
        Edge.of(36, "a CARROT of n MINUTES (1 .. 10)", c + "rests 0 0 5 ~ -1 | rests 0 11 5 ~ -1 | rests 0 -1 5 ~ -1",
            "rests 0 2147483647 5 ~ -1 | rests 0 1 0 ? 0 | rests 0 10 0 ? 0");
        Edge.of(36, "NONE: others: DONKEYS", c + "rests 1 2 5 ~ -1 | rests -1 2 5 ~ -1 | rests -2147483648 2 5 ~ -1");
        Edge.of(36, "no more than one of each is thought of: nothing of it stays", c + "rests 0 10 20 | when 0 2 = 8",
            "rests 0 2 0 ? 0 | rows 0 0 0 4");
        Edge.of(36, "those that are there stay, ten as well", c + "10x carrot 0 4 4 -1 | rests 0 1 0 ? 0",
            "rows 0 0 0 5");
    }

    private static void restsFar() {
        Edge.of(36, "a MINUTE (.. 30)", ONE + " | rule '(m<4)+4*(m=30)*(c>0)' | rests 0 1 2 ? 2 | rows 0 0 30 27",
            "rule '(m<4)+4*(m=31)*(c>0)' | rests 0 1 20 ? 2 | rows 1 0 0 601");
        Edge.of(36, "a MINUTE (.. 30) of boy 0, too", ONE + " | rule '(m<4)+4*(m>29)*(c+1)*(m<31)' | rests 0 1 1 ? 1",
            "rows 0 30 0 601", "rule '(m<4)+4*(m=31)*(c+1)' | rests 0 1 1 ? 1 | rows 0 0 0 28");
        Edge.of(36, "from which on: n MINUTES", ONE + " | rule '(m<4)+4*(m=39)*(c>0)' | rests 0 10 2 ? 2",
            "rows 0 0 30 36 | rule '(m<4)+4*(m=40)*(c>0)' | rests 0 10 2 ? 2 | rows 1 0 0 601");
        Edge.of(36, "of as good ones its own, then the first", ONE + " | rule '2+c' | rests 0 4 5 ? 5 | rows 0 0 0 2",
            "rule '1' | rests 0 10 3 ? 2 | rows 1 0 0 4");
        Edge.of(36, "601: it does not end within 600", ONE + " | rule '0' | rests 0 2 9 ? 2 | rows 1 0 0 601",
            "rule '(m<4)+4*(m=599)' | rests 0 2 0 ? 0 | rows 0 0 0 596", "rule '(m<4)+4*(m=600)' | rests 0 2 0 ? 0",
            "rows 0 0 0 601");
    }

    private static void bid() {
        String c = ONE + " | rule '1+c' | ";
        Edge.of(37, "The fewest MINUTES (0 ..): none", c + "bid 0 -1 4 ~ 0 | bid 0 1 4 ~ 0 | bid 0 -1 5 ~ 1",
            "bid 0 1 3 ~ 1");
        Edge.of(37, "The fewest MINUTES (.. 60)", c + "bid 0 -1 64 ~ 60 | bid 0 -1 65 ~ -2 | rule 'c+0*m'",
            "bid 0 1 4 ~ 4 | rule '(c>0)*(m>55)' | bid 0 1 60 ~ 60 | rule '(c>0)*(m>56)' | bid 0 1 600 ~ -2");
        Edge.of(37, "after v MINUTES (1 ..)", ONE + " | set 0 1 3 | bid 0 1 1 ~ 0 | bid 0 -1 1 ~ 0 | bid 0 1 0 ~ -1",
            "bid 0 -1 0 ~ -1 | bid 0 1 -1 ~ -1");
        Edge.of(37, "after v MINUTES (.. 600)", ONE + LAST + " | bid 0 1 600 ~ 0 | bid 0 -1 600 ~ 0",
            "bid 0 1 599 ~ -2 | bid 0 1 601 ~ -1 | bid 0 -1 2147483647 ~ -1");
        Edge.of(37, "after v MINUTES or more: more at once", ONE + " | rule '(m>9)+(m<4)*(1+c)' | bid 0 -1 5 ~ 1",
            "bid 0 -1 11 ~ 1 | bid 0 -1 12 ~ 2");
        Edge.of(37, "after v or fewer: fewer at once", ONE + " | rule '1+9*c' | bid 0 1 3 ~ 1 | bid 0 1 2 ~ 1",
            "bid 0 1 1 ~ 1 | bid 0 1 4 ~ 0");
        Edge.of(37, "or more (also not within 600)", ONE + BEYOND + " | bid 0 -1 600 ~ 0 | bid 0 -1 1 ~ 0 | rule '0'",
            "bid 0 -1 600 ~ 0");
        Edge.of(37, "or fewer: not within 600 is not", ONE + BEYOND + " | bid 0 1 600 ~ -2 | rule '0'",
            "bid 0 1 600 ~ -2");
        Edge.of(37, "holding (how -1), hurrying (1)", c + "bid 0 0 4 ~ -1 | bid 0 2 4 ~ -1 | bid 0 -2 4 ~ -1",
            "bid 0 2147483647 4 ~ -1");
        Edge.of(37, "NONE is asked ahead of -2", ONE + " | rule '0' | bid 0 1 600 ~ -2 | bid 0 1 601 ~ -1",
            "bid 0 2 600 ~ -1 | bid 1 1 600 ~ -1");
        Edge.of(37, "NONE: others: DONKEYS", c + "bid 1 1 4 ~ -1 | bid -1 1 4 ~ -1 | bid -2147483648 1 4 ~ -1");
        Edge.of(37, "of one CARROT from now on", c + "minutes 5 | bid 0 -1 5 ~ 2 | bid 0 1 2 ~ 1");
        Edge.of(37, "no more than one is thought of: nothing of it stays", c + "bribe 0 20 -1 | rests 0 10 20",
            "bid 0 -1 6 ~ 2 | bid 0 1 1 ~ -2 | when 0 60 ~ 240 | bid 0 1 4 ~ 0 | when 0 60 ~ 240");
        Edge.of(37, "those that are there stay, ten as well", c + "10x carrot 0 1 1 -1 | bid 0 -1 5 ~ 0",
            "bid 0 -1 6 ~ 1 | bid 0 -1 7 ~ 3 | count 2 = 10 | when 0 1 = 5");
    }

    private static void heard() {
        Edge.of(38, "n STROKES (0 .. 60)", ONE + " | heard 0 -1 9 ~ -1 | heard 0 61 9 ~ -1",
            "heard 0 2147483647 9 ~ -1 | heard 0 0 9 = 1 | heard 0 60 9 = 2");
        Edge.of(38, "within w MINUTES (1 .. 600)", ONE + " | heard 0 5 0 ~ -1 | heard 0 5 601 ~ -1",
            "heard 0 5 -2147483648 ~ -1 | heard 0 5 1 = 1 | heard 0 5 600 = 2");
        Edge.of(38, "Refused: 8", ONE + " | 7x heard 0 0 1 | heard 0 0 1 = 8 | heard 0 0 1 ~ -1 | count 7 = 8");
        Edge.of(38, "Refused: others: DONKEYS", TWO + " | heard 2 0 1 ~ -1 | heard -1 0 1 ~ -1",
            "heard 2147483647 0 1 ~ -1 | heard 1 0 1 = 1");
        Edge.of(38, "Refused: no DONKEYS", "heard 0 0 1 ~ -1");
        Edge.of(38, "within w MINUTES: the last one, too", ONE + LAST + " | heard 0 1 600 | ways 0 = 40 | forget",
            "heard 0 1 599 | ways 0 = 0 | forget" + BEYOND + " | heard 0 0 600 | ways 0 = 40");
        Edge.of(38, "within w MINUTES: each its own", ONE + " | heard 0 2 8 | heard 0 1 7 | heard 0 1 4",
            "heard 0 0 3 | hungers 0 ? 1023 | rows 1");
        Edge.of(38, "struck n STROKES: no more and no fewer", ONE + " | heard 0 2 8 | hungers 0 = 1023 | forget",
            "heard 0 1 8 | hungers 0 = 0 | forget | heard 0 3 8 | hungers 0 = 0");
        Edge.of(38, "from when it is asked for", ONE + " | heard 0 1 1 | hungers 0 = 0 | minutes 3",
            "hungers 0 = 1023 | minute | hungers 0 = 0");
    }

    private static void forget() {
        Edge.of(39, "how much there was: nothing", "forget ~ 0 | " + ONE + " | heard 0 0 1 | forget = 1",
            "forget ~ 0");
        Edge.of(39, "how much there was: eight", ONE + " | 8x heard 0 9 1 | ways 0 = 0 | forget = 8 | count 7 = 0",
            "ways 0 = 40 | heard 0 0 1 = 1");
    }

    private static void hungers() {
        Edge.of(40, "HUNGERS (bits 0 .. 9): 0 alone", ONE + " | rule '(h=0)*4' | heard 0 1 1 | hungers 0 ? 1",
            "rows 0");
        Edge.of(40, "HUNGERS (bits 0 .. 9): 9 alone", ONE + " | rule '(h=9)*4' | heard 0 1 1 | hungers 0 ? 512",
            "rows 0");
        Edge.of(40, "HUNGERS: all, and none", ONE + " | hungers 0 ? 1023 | rows 15 | heard 0 60 1 | hungers 0 ? 0",
            "rows 0");
        Edge.of(40, "the same of PLACES: 0 alone", ONE + " | heard 0 0 3 | heard 0 1 4 | hungers 0 ? 1023 | rows 1");
        Edge.of(40, "the same of PLACES: the last alone", "stable '5:0000;5:000000000000' | heard 0 1 1",
            "heard 1 1 1 | hungers 0 ? 0 | rows 8 | hungers 1 ? 0 | rows 2048");
        Edge.of(40, "all that was heard of it, not of another one", TWO + " | heard 1 60 1 | hungers 0 ? 1023",
            "rows 15 | hungers 1 ? 0 | rows 0");
        Edge.of(40, "all that was heard of it: the last of eight", ONE + " | 7x heard 0 0 1 | hungers 0 ? 1023",
            "heard 0 60 1 | hungers 0 ? 0");
        Edge.of(40, "NONE: none such", ONE + " | hungers 1 ~ -1 | hungers -1 ~ -1 | hungers 2147483647 ~ -1",
            "hungers -2147483648 ~ -1");
        Edge.of(40, "NONE: no DONKEYS", "hungers 0 ~ -1");
    }

    private static void ways() {
        Edge.of(41, "How many ways: all", "stable '5:0000;5:000000000000' | ways 0 ? 40 | rows 0 0 | ways 1 ? 120",
            "rows 0 0");
        Edge.of(41, "none without", ONE + " | ahead 0 0 | heard 0 60 1 | ways 0 ? 0 | rows | count 8 = 0",
            "row 0 ~ !");
        Edge.of(41, "of the first: it is the last", ONE + " | rule 'h=9' | heard 0 1 1 | ways 0 ? 1 | rows 9 3");
        Edge.of(41, "of the first (by HUNGER, then PLACE)", ONE + " | rule '(h<2)+(h=0)' | heard 0 1 1 | ways 0 ? 3",
            "rows 0 2 | rule '(h<2)+(h=1)' | ways 0 ? 3 | rows 0 3");
        Edge.of(41, "NONE: none such", ONE + " | ways 1 ~ -1 | ways -1 ~ -1 | ways 2147483647 ~ -1",
            "ways -2147483648 ~ -1");
        Edge.of(41, "NONE: no DONKEYS", "ways 0 ~ -1");
    }

    private static void swarms() {
        Edge.of(42, "FLIES (bits 0 .. 9): 0 alone", ONE + " | flies '5' | rule '(f=0)*4' | heard 0 1 1 | swarms ~ 1");
        Edge.of(42, "FLIES (bits 0 .. 9): 9 alone", ONE + " | rule '(f=9)*4' | heard 0 1 1 | swarms ~ 512");
        Edge.of(42, "all that was heard: nothing, and what can't be", ONE + " | swarms ~ 1023 | heard 0 60 1",
            "swarms ~ 0");
        Edge.of(42, "of no DONKEYS", "swarms ~ 1023");
        Edge.of(42, "the same in each MINUTE", ONE + " | flies '20' | rule 'f' | heard 0 2 4 | swarms ~ 4");
        Edge.of(42, "of all: of the first, the second, the third", "stable '5:0000;5:0000;5:0000' | rule '4*(f>i)'",
            "heard 0 1 1 | swarms ~ 1022 | heard 1 1 1 | swarms ~ 1020 | heard 2 1 1 | swarms ~ 1016");
        Edge.of(42, "FLIES that are told stay", ONE + " | flies '31' | rule 'f' | heard 0 1 1 | swarms ~ 1008",
            "donkey 0 6 = 3 | when 0 1 = 2 | hungers 0 = 0 | minute | donkey 0 6 = 1");
    }

    private static void span() {
        Edge.of(43, "the k-th STROKE (1 .. 60)", ONE + " | rule '4' | span 0 1 ? 1 | rows 1 40 | span 0 60 ? 60",
            "rows 60 40 | span 0 0 ~ -1 | span 0 61 ~ -1 | span 0 -1 ~ -1", "span 0 2147483647 ~ -1");
        Edge.of(43, "After how many MINUTES (1 .. 600)", ONE + " | rule 'm=599' | span 0 1 ? 600 | rows 600 10",
            "rule 'm=600' | span 0 1 ~ -2");
        Edge.of(43, "at the earliest, at the latest", ONE + " | span 0 1 ? 1 | rows 4 40 | rule '(m>p)*(h=9)'",
            "span 0 1 ? 5 | rows 5 4 | rule '(p>m)' | span 0 1 ? 1 | rows 3 30");
        Edge.of(43, "at the earliest, at the latest: one way alone", ONE + " | rule 'h=9' | heard 0 1 1",
            "span 0 1 ? 1 | rows 1 1 | span 0 2 ? 5 | rows 5 1");
        Edge.of(43, "at the earliest: by the first way alone", ONE + " | rule '(h<1)*(p=0)*4+(m>5)'",
            "span 0 1 ? 1 | rows 10 40");
        Edge.of(43, "at the earliest: by a way that is neither the first nor the last", ONE + " | rule '2-h/5'",
            "span 0 2 ? 3 | rows 8 40");
        Edge.of(43, "at the latest: by a way that is neither the first nor the last", ONE + " | rule '1+(h=0)+(p=3)'",
            "span 0 1 ? 1 | rows 4 40");
        Edge.of(43, "in how many ways it comes in these", ONE + " | rule 'h=7' | span 0 1 ? 1 | rows 4 4");
        Edge.of(43, "-2: in none: none is left", ONE + " | ahead 0 0 | heard 0 60 1 | span 0 1 ~ -2 | rows 0 5");
        Edge.of(43, "-2: in none: none comes", ONE + " | rule '0' | span 0 1 ~ -2 | heard 0 0 600 | span 0 60 ~ -2");
        Edge.of(43, "the k-th STROKE is one of those that were heard", ONE + " | heard 0 3 12 | span 0 1 ? 1",
            "rows 4 40 | span 0 3 ? 9 | rows 12 40 | span 0 4 ? 13 | rows 16 40");
        Edge.of(43, "NONE is asked ahead of -2", ONE + " | rule '0' | span 0 1 ~ -2 | span 0 61 ~ -1 | span 0 0 ~ -1",
            "span 1 1 ~ -1");
        Edge.of(43, "NONE: others: DONKEYS", ONE + " | span 1 1 ~ -1 | span -1 1 ~ -1 | span 2147483647 1 ~ -1");
    }

    private static void apart() {
        Edge.of(44, "n MINUTES (0 .. 600)", TWO + " | apart 0 1 0 ~ 0 | apart 0 1 600 ~ 30 | apart 0 1 -1 ~ !",
            "apart 0 1 601 ~ ! | apart 0 1 2147483647 ~ !");
        Edge.of(44, "n MINUTES: the last one, too", "stable '5:0000;5:0000' | rule '(i=0)*(m=599)*4'",
            "apart 0 1 600 ~ 1 | apart 0 1 599 ~ 0 | rule '(i=0)*(m=600)*4' | apart 0 1 600 ~ 0");
        Edge.of(44, "in all (may be below 0)", TWO + " | apart 1 0 4 ~ -1 | apart 1 0 600 ~ -30 | minutes 80",
            "apart 0 1 0 ~ 4 | apart 1 0 0 ~ -4 | apart 1 0 20 ~ -5");
        Edge.of(44, "NoSuchElementException: like ones", TWO + " | apart 0 0 5 ~ ! | apart 1 1 5 ~ !",
            "apart 2 2 5 ~ ! | apart -1 -1 5 ~ !");
        Edge.of(44, "NoSuchElementException: one is not there", TWO + " | apart 2 0 5 ~ ! | apart -1 0 5 ~ !",
            "apart 2147483647 0 5 ~ !");
        Edge.of(44, "NoSuchElementException: the other one is not there", TWO + " | apart 0 2 5 ~ !",
            "apart 0 -1 5 ~ ! | apart 0 -2147483648 5 ~ !");
    }

    private static void together() {
        Edge.of(45, "After how many MINUTES (1 ..)", LIKE + " | together 0 1 ~ 4 | minutes 3 | together 0 1 ~ 1",
            "together 1 0 ~ 1 | minute | together 0 1 ~ 4");
        Edge.of(45, "After how many MINUTES (.. 600). -2: in none", LIKE + LAST + " | together 0 1 ~ 600",
            "together 1 0 ~ 600" + BEYOND + " | together 0 1 ~ -2");
        Edge.of(45, "both in one MINUTE, not one alone", LIKE + " | set 0 1 1 | together 0 1 ~ -2 | rule 'i'",
            "together 0 1 ~ -2 | rule '1-i' | together 0 1 ~ -2");
        Edge.of(45, "NONE: like ones", TWO + " | together 0 0 ~ -1 | together 1 1 ~ -1 | together 2 2 ~ -1");
        Edge.of(45, "NONE: others", TWO + " | together 0 2 ~ -1 | together 2 0 ~ -1 | together -1 0 ~ -1",
            "together 0 -1 ~ -1 | together 2147483647 0 ~ -1");
        Edge.of(45, "NONE is asked ahead of -2", TWO + " | rule '0' | together 0 1 ~ -2 | together 0 0 ~ -1",
            "together 0 2 ~ -1");
    }

    private static void join() {
        Edge.of(46, "MINUTES (of the next n, 1 .. 600)", LIKE + " | join 0 1 1 ? 1 | rows 0 1 | join 0 1 600 ? 600",
            "rows 0 600 | join 0 1 0 ~ -1 | join 0 1 601 ~ -1 | join 0 1 -1 ~ -1", "join 0 1 2147483647 ~ -1");
        Edge.of(46, "of the next n: the last one, too", LIKE + " | rule '4*(i=0)*(m=599)' | join 0 1 600 ? 599",
            "rows 0 599 | rule '4*(i=0)*(m=600)' | join 0 1 600 ? 600");
        Edge.of(46, "the same HOUR behind them", LIKE + " | rule '4*(i=0)*(m=0)' | join 0 1 5 ? 0 | rows 1 5");
        Edge.of(46, "the same HOUR: 12 STROKES apart", LIKE + " | rule '4*(i=0)' | minutes 12 | rule '0'",
            "join 0 1 5 ? 5 | rows 0 5 | join 1 0 5 ? 5 | rows 0 5");
        Edge.of(46, "the shift (0 .. 11)", LIKE + " | rule '4*i' | join 0 1 1 ? 0 | rows 11 1 | join 1 0 1 ? 0",
            "rows 1 1 | minutes 11 | rule '0' | join 1 0 3 ? 0 | rows 11 3 | join 0 1 3 ? 0 | rows 1 3");
        Edge.of(46, "of equal ones the least", TWO + " | join 0 1 18 ? 9 | rows 0 9 | rule '4*(i=0)'",
            "join 0 1 12 ? 1 | rows 0 1 | join 0 1 11 ? 0 | rows 1 1 | join 1 0 11 ? 0 | rows 1 1");
        Edge.of(46, "NONE: like ones", TWO + " | join 0 0 5 ~ -1 | join 1 1 5 ~ -1 | join 2 2 5 ~ -1");
        Edge.of(46, "NONE: others", TWO + " | join 0 2 5 ~ -1 | join 2 0 5 ~ -1 | join -1 0 5 ~ -1",
            "join 0 -1 5 ~ -1");
    }

    private static void shows() {
        Edge.of(47, "its k-th STROKE (1 .. 60)", LIKE + " | shows 0 1 1 ~ 1 | shows 0 1 60 ~ 0 | shows 0 1 59 ~ 11",
            "shows 0 1 0 ~ -1 | shows 0 1 61 ~ -1 | shows 0 1 -1 ~ -1");
        Edge.of(47, "(behind that MINUTE)", LIKE + " | minutes 3 | shows 0 1 1 ~ 1 | shows 1 0 1 ~ 1 | set 0 1 2",
            "shows 0 1 1 ~ 0 | shows 1 0 1 ~ 1");
        Edge.of(47, "What THE CLOCK shows: HOUR 11, then 0", LIKE + " | minutes 40 | shows 0 1 1 ~ 11",
            "shows 0 1 2 ~ 0 | shows 0 1 3 ~ 1");
        Edge.of(47, "-2: not within 600 MINUTES", LIKE + LAST + " | shows 0 1 1 ~ 1",
            "shows 0 1 2 ~ -2" + BEYOND + " | shows 0 1 1 ~ -2");
        Edge.of(47, "-2: the other one stands; one stands", LIKE + " | rule 'i' | shows 1 0 1 ~ -2",
            "shows 0 1 1 ~ 0");
        Edge.of(47, "NONE: like ones", TWO + " | shows 0 0 1 ~ -1 | shows 1 1 1 ~ -1 | shows 2 2 1 ~ -1");
        Edge.of(47, "NONE: others", TWO + " | shows 0 2 1 ~ -1 | shows 2 0 1 ~ -1 | shows -1 0 1 ~ -1",
            "shows 0 -1 1 ~ -1");
        Edge.of(47, "NONE is asked ahead of -2", TWO + " | rule '0' | shows 0 1 1 ~ -2 | shows 0 1 61 ~ -1",
            "shows 0 1 0 ~ -1 | shows 0 0 1 ~ -1 | shows 0 2 1 ~ -1");
    }

    private static void egg() {
        Edge.of(48, "the k-th behind that (1 .. 12)", ONE + " | egg 0 1 4 ? 4 | rows 1 4 | egg 0 12 4 ? 48",
            "rows 1 4 | egg 0 0 4 ~ -1 | egg 0 13 4 ~ -1 | egg 0 -1 4 ~ -1 | egg 0 2147483647 4 ~ -1");
        Edge.of(48, "v MINUTES (1 .. 600)", ONE + " | egg 0 1 1 ? 4 | rows 1 4 | egg 0 1 600 ? 4 | rows 12 48",
            "egg 0 1 0 ~ -1 | egg 0 1 601 ~ -1 | egg 0 1 -1 ~ -1");
        Edge.of(48, "that number of STROKES (1 .. 12)", ONE + " | egg 0 1 48 ? 4 | rows 12 48 | egg 0 1 52 ? 4",
            "rows 12 48 | egg 0 1 4 ? 4 | rows 1 4 | egg 0 1 46 ? 4 | rows 11 44");
        Edge.of(48, "of as near ones the fewest", ONE + " | egg 0 1 10 ? 4 | rows 2 8 | egg 0 1 6 ? 4 | rows 1 4",
            "egg 0 1 7 ? 4 | rows 2 8 | egg 0 1 9 ? 4 | rows 2 8");
        Edge.of(48, "-2: the second of the two does not come within 600 MINUTES", ONE + " | rule '(m<4)+4*(m=599)'",
            "egg 0 1 600 ? 596 | rows 1 596 | egg 0 2 600 ~ -2", "rule '(m<4)+4*(m=600)' | egg 0 1 600 ~ -2");
        Edge.of(48, "-2: the first of the two does not come within 600 MINUTES", ONE + " | rule '0'",
            "egg 0 1 5 ~ -2" + LAST + " | egg 0 1 5 ~ -2");
        Edge.of(48, "The nearest is of those that come", ONE + " | rule 'm<16' | egg 0 3 600 ? 12 | rows 3 12",
            "egg 0 1 11 ? 4 | rows 3 12 | egg 0 4 600 ~ -2");
        Edge.of(48, "NONE is asked ahead of -2", ONE + " | rule '0' | egg 0 1 5 ~ -2 | egg 0 13 5 ~ -1",
            "egg 0 0 5 ~ -1 | egg 0 1 0 ~ -1 | egg 0 1 601 ~ -1 | egg 1 1 5 ~ -1");
        Edge.of(48, "NONE: others: DONKEYS", ONE + " | egg 1 1 5 ~ -1 | egg -1 1 5 ~ -1 | egg 2147483647 1 5 ~ -1");
    }

    private static void plant() {
        String slow = "stable '9:0900;9:0000' | rule '3' | ";
        Edge.of(49, "so many THISTLES (1 .. 9)", ONE + " | rule '2' | plant 0 1 1 ? 1 | rows 3 | plant 0 9 1 ? 1",
            "rows 3 | plant 0 0 1 ~ -1 | plant 0 10 1 ~ -1 | plant 0 -1 1 ~ -1", "plant 0 2147483647 1 ~ -1");
        Edge.of(49, "the k-th STROKE (1 .. 60)", ONE + " | plant 0 1 1 ? 0 | rows 4 | plant 0 1 60 ? 0 | rows 240",
            "plant 0 1 0 ~ -1 | plant 0 1 61 ~ -1 | plant 0 1 -1 ~ -1");
        Edge.of(49, "put down now besides (9 at most)", slow + "plant 0 9 20 ? 2 | rows 34 | plant 1 9 20 ? 0",
            "rows 33");
        Edge.of(49, "put down now besides, not instead", "stable '5:0100' | rule '3' | plant 0 1 3 ? 1 | rows 6");
        Edge.of(49, "not within 600 is later than any", ONE + LAST + " | plant 0 1 1 ? 1 | rows -1 | rule 'm=599'",
            "set 0 1 3 | plant 0 1 1 ? 0 | rows 600");
        Edge.of(49, "NONE: not within 600", ONE + BEYOND + " | plant 0 1 1 ? 0 | rows -1 | rule '0'",
            "plant 0 9 60 ? 0 | rows -1");
        Edge.of(49, "of equal ones the first", ONE + " | plant 0 3 1 ? 0 | rows 4 | rule '2' | plant 0 3 1 ? 1",
            "rows 3 | rule 'h' | set 0 0 2 | plant 0 1 1 ? 1 | rows -1");
        Edge.of(49, "The PLACE: the last one", ONE + " | rule '1+(p=2)' | plant 0 1 1 ? 3 | rows 4");
        Edge.of(49, "NONE: others: DONKEYS", ONE + " | plant 1 1 1 ~ -1 | plant -1 1 1 ~ -1",
            "plant 2147483647 1 1 ~ -1");
    }

    private static void keep() {
        Edge.of(50, "under a number 0 .. 1", ONE + " | keep 0 ~ 1 | keep 1 ~ 1 | keep -1 ~ 0 | keep 2 ~ 0",
            "keep 2147483647 ~ 0 | keep -2147483648 ~ 0");
        Edge.of(50, "under 0 and under 1: each its own", ONE + " | minutes 5 | keep 0 | minutes 5 | keep 1",
            "minutes 5 | again 0 = 1 | count 1 = 5 | again 1 = 1 | count 1 = 10");
        Edge.of(50, "kept anew", ONE + " | keep 0 | minutes 7 | keep 0 = 1 | minutes 5 | again 0 = 1 | count 1 = 7");
        Edge.of(50, "of no DONKEYS", "minutes 3 | keep 0 ~ 1 | minutes 4 | again 0 = 1 | count 1 = 3");
        Edge.of(50, "what is kept forgets nothing that can be undone", ONE + " | minute | keep 0 | keep 1",
            "count 6 = 1 | undo = 0");
        Edge.of(50, "NOW, THISTLES, HUNGER, PLACES, STROKES, THE BOOK, CARROTS are kept", "stable '5:0300'",
            "minutes 5 | carrot 0 0 9 1 | keep 1 | minutes 200 | sow 0 2 9 | eat | again 1 = 1", "count 1 = 5",
            "thistles 0 1 = 1 | thistles 0 2 = 0 | donkey 0 0 = 2 | donkey 0 1 = 1 | donkey 0 2 = 1 | struck 0 1 = 3",
            "struck 0 2 = -2 | count 2 = 1");
        Edge.of(50, "refused, what was kept stays", ONE + " | keep 1 | minutes 3 | keep 2 = 0 | keep -1 = 0",
            "again 1 = 1 | count 1 = 0 | again 0 = 0");
    }

    private static void again() {
        Edge.of(51, "Refused: nothing kept", ONE + " | again 0 ~ 0 | again 1 ~ 0 | keep 0 | again 1 ~ 0",
            "again 0 = 1");
        Edge.of(51, "Refused: another number", ONE + " | keep 0 | keep 1 | minute | again 2 ~ 0 | again -1 ~ 0",
            "again 2147483647 ~ 0 | again -2147483648 ~ 0");
        Edge.of(51, "Refused: DONKEYS came since", ONE + " | keep 0 | minutes 5 | " + ONE + " | again 0 ~ 0 | keep 0",
            "again 0 = 1");
        Edge.of(51, "Refused: DONKEYS came since none were there", "keep 0 | " + ONE + " | again 0 ~ 0");
        Edge.of(51, "DONKEYS came since, not by a stable() that is empty or refused", ONE + " | keep 0 | minute",
            "stable | stable '5:000' | stable '5:0000;x' | again 0 = 1 | count 1 = 0");
        Edge.of(51, "They are as they were kept: NOW, THISTLES, HUNGER, PLACES, STROKES", "stable '5:0300;5:00000'",
            "minutes 9 | keep 1 | minutes 90 | sow 0 2 9 | set 1 0 0 | again 1 = 1", "count 1 = 9 | thistles 0 1 = 0",
            "thistles 0 2 = 0 | donkey 0 0 = 1 | donkey 1 0 = 6 | donkey 0 1 = 1 | donkey 1 1 = 4 | donkey 0 2 = 2",
            "donkey 1 2 = 1");
        Edge.of(51, "They are as they were kept: THE BOOK", ONE + " | minutes 160 | keep 0 | minutes 600",
            "struck 0 1 = -3 | again 0 | struck 0 1 = 3 | struck 0 40 = 159 | struck 0 41 = -2");
        Edge.of(51, "They are as they were kept: CARROTS", ONE + " | rule '2+c' | carrot 0 0 5 1 | keep 0 | eat",
            "carrot 0 0 9 -1 | carrot 0 0 9 -1 | again 0 | count 2 = 1 | donkey 0 6 = 3 | minutes 6",
            "donkey 0 6 = 2");
        Edge.of(51, "They are as they were kept: CARROTS of the same DONKEY, from and to the same MINUTES",
            TWO + " | rule '2+c' | carrot 1 2 3 1 | keep 0 | eat | carrot 0 0 9 -1 | again 0", "donkey 0 6 = 2",
            "donkey 1 6 = 2 | minutes 2 | donkey 1 6 = 3 | minutes 2 | donkey 1 6 = 2");
        Edge.of(51, "They are as they were kept: no CARROTS", ONE + " | keep 0 | 10x carrot 0 0 5 1 | again 0",
            "count 2 = 0 | eat ~ -1");
        Edge.of(51, "what is not kept stays: THE RULE, FLIES, CONTRACTS, what was heard, the ROW, THE TEXT",
            ONE + " | keep 0 | rule 'f' | flies '3' | owe 0 1 5 0 0 | heard 0 0 1 | ahead 0 0 | sign 0",
            "again 0 = 1 | donkey 0 6 = 3 | count 3 = 1 | count 7 = 1 | rows 0 5 | count 9 = 4");
        Edge.of(51, "what is kept stays as it was kept", "stable '5:0300' | rule '1+c' | minutes 2 | carrot 0 0 9 1",
            "keep 0 | again 0 | minutes 40 | sow 0 0 9 | eat | again 0", "thistles 0 1 = 2 | thistles 0 0 = 0",
            "donkey 0 0 = 3 | donkey 0 1 = 2 | donkey 0 2 = 0 | struck 0 1 = -2 | count 2 = 1 | donkey 0 6 = 2");
        Edge.of(51, "again and again", ONE + " | minutes 5 | keep 0 | minutes 5 | again 0 = 1 | minutes 7",
            "again 0 = 1 | count 1 = 5 | again 0 ~ 1");
    }

    private static void count() {
        Edge.of(52, "NONE for another what", "count -1 ~ -1 | count 10 ~ -1 | count 2147483647 ~ -1",
            "count -2147483648 ~ -1 | " + ONE + " | count -1 ~ -1 | count 10 ~ -1");
        Edge.of(52, "0: DONKEYS", "count 0 = 0",
            "2x " + ONE + " | count 0 = 2 | " + ONE + " | count 0 = 3 | " + ONE + " | count 0 = 3");
        Edge.of(52, "1: NOW", "count 1 = 0 | minutes 600 | count 1 = 600 | undo | count 1 = 0");
        Edge.of(52, "2: CARROTS", ONE + " | count 2 = 0 | 11x carrot 0 5 5 1 | count 2 = 10 | minutes 9",
            "count 2 = 10 | 11x eat | count 2 = 0");
        Edge.of(52, "3: CONTRACTS", ONE + " | count 3 = 0 | 11x owe 0 1 5 0 0 | count 3 = 10 | tear | count 3 = 0");
        Edge.of(52, "4: STROKES of all", "count 4 = 0 | " + TWO + " | minutes 40 | count 4 = 18 | donkey 0 2 = 10",
            "donkey 1 2 = 8");
        Edge.of(52, "5: THISTLES of all", "count 5 = 0 | stable '5:0200;5:999999999999' | count 5 = 110 | minute",
            "count 5 = 108");
        Edge.of(52, "6: what can be undone", "count 6 = 0 | 11x minute | count 6 = 10 | undo | count 6 = 9");
        Edge.of(52, "7: what was heard", ONE + " | count 7 = 0 | 9x heard 0 0 1 | count 7 = 8 | forget",
            "count 7 = 0");
        Edge.of(52, "8: numbers of the ROW", "count 8 = 0 | minutes 0 | count 8 = 1 | reading 0 1 | count 8 = 4",
            "reading 0 0 | count 8 = 4 | minute | count 8 = 2");
        Edge.of(52, "9: signs of THE TEXT", "count 9 = 0 | sign 0 | count 9 = 4 | end 3 | count 9 = 3 | 20x sign 0",
            "count 9 = 79 | rule | count 9 = 0");
    }

    private static void row() {
        Edge.of(53, "NoSuchElementException: none such", "row 0 ~ ! | minute | row 0 ~ 0 | row 1 ~ 0 | row 2 ~ !",
            "row -1 ~ ! | row 2147483647 ~ ! | row -2147483648 ~ !");
        Edge.of(53, "NoSuchElementException: of four numbers the fifth", "reading 0 1 | row 3 ~ 0",
            "row 4 ~ ! | " + ONE + " | stable '5:0000;5:0000' | minutes 4 | row 3 ~ 1 | row 4 ~ !");
        Edge.of(53, "numbers told last: fewer than ahead of it", ONE + " | reading 0 1 | ahead 0 0 | row 1 ~ 5",
            "row 2 ~ !");
        Edge.of(53, "numbers told last: none", ONE + " | minute | heard 0 60 1 | ways 0 = 0 | row 0 ~ !");
        Edge.of(53, "The ROW stays with NONE and with -2, -3", ONE + " | ahead 0 0 | ahead 0 601 ~ -1 | rule '0'",
            "strikes 0 1 ~ -2 | sheet 3 0 0 0 = -3 | rows 0 5");
        Edge.of(53, "The ROW stays with a TEXT that is wrong", ONE + " | minute | rows 0 0 | day 'x' ~ -1 | rows 0 0",
            "day | rows 0 0");
        Edge.of(53, "by a call that says so: others leave it", ONE + " | ahead 0 0 | sow 0 0 1 | set 0 0 9",
            "carrot 0 0 0 1 | eat | owe 0 1 1 0 0 | tear | heard 0 0 1 | forget | keep 0 | again 0 | when 0 1",
            "stops 0 | rows 0 5");
    }
}
