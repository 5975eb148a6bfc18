/** Boundary cases of the Terms that hold for many calls: each is tested of each promise that it touches. */
final class TermsEdges {
    private static final String ONE = "stable '5:0000'";
    private static final String LIKE = "stable '5:0000;5:0000'";

    private TermsEdges() {
    }

    static void run() {
        fromNowOn();
        fromNowOnOfTwo();
        toCome();
        text();
        row();
    }

    private static void fromNow(int promise, String steps) {
        Edge.of(promise, "Questions about MINUTES to come go on from now", ONE + " | minutes 100",
            "rule '(m=103)*4' | " + steps);
    }

    /** It strikes in MINUTE 103 alone, its 26th STROKE, an HOUR 2. */
    private static void fromNowOn() {
        fromNow(21, "ahead 0 4 ? 1 | rows 0 9 | ahead 0 3 ? 0");
        fromNow(22, "when 0 1 ~ 4 | when 0 2 ~ -2");
        fromNow(23, "strikes 0 2 ? 4 | rows 1 | strikes 0 1 ~ -2");
        fromNow(24, "stops 0 ~ 4 | minutes 4 | stops 0 ~ 0");
        fromNow(25, "sow 0 1 2 | eats 0 4 ? 1 | rows 1 1 | eats 0 3 ? 0");
        fromNow(28, "owe 0 1 10 0 2 | due 0 0 4 ~ 3 | due 0 1 600 ~ 3 | due 0 0 3 ~ -2");
        fromNow(29, "owe 0 1 10 0 2 | owes 0 2 4 ? 10 | owes 0 2 3 ? 0");
        fromNow(30, "owe 0 1 10 0 2 | reading 0 4 ? 0 | rows 10 10 10 10 | reading 0 3 ? 0 | rows 0 0 0 0");
        fromNow(31, "owe 0 1 10 0 2 | mildest 4 ? 0 | rows 10 | mildest 3 ? 0 | rows 0");
        fromNow(32, "leave 0 4 0 ? 1 | rows 0 | leave 0 3 0 ? 0 | rows 3");
        fromNow(33, "sure 0 4 0 10 ? 1 | rows 10 | sure 0 3 0 10 ? 0");
        fromNow(34, "missed 0 4 1 0 ? 149 | rows 0");
        fromNow(36, "rule '4*(m=101)+4*(m=105)' | rests 0 1 0 ? 0 | rows 0 0 0 4");
        fromNow(38, "heard 0 1 4 = 1 | heard 0 0 3 = 2 | hungers 0 ? 1023 | ways 0 ? 40 | swarms ~ 1023");
        fromNow(43, "span 0 1 ? 4 | rows 4 40 | span 0 2 ~ -2");
        fromNow(48, "rule '4*(m=101)+4*(m=105)' | egg 0 1 9 ? 4 | rows 1 4");
        fromNow(49, "rule 'm=103' | set 0 1 3 | plant 0 1 1 ? 0 | rows 4");
        Edge.of(35, "Questions about MINUTES to come go on from now", ONE + " | minutes 100",
            "rule '4*(m=101)+4*(m=105)-9*c' | bribe 0 1 1 ? 0 | rows 4 4", "rule '4*(m=101)+4*(m=105)+4*c'",
            "bribe 0 1 1 ? 0 | rows 1 4");
        Edge.of(37, "Questions about MINUTES to come go on from now", ONE + " | minutes 100",
            "rule '(m=103)*(c+1)*2+c' | set 0 1 2 | bid 0 1 4 ~ 0 | bid 0 1 3 ~ 2 | bid 0 1 1 ~ -2");
    }

    private static void fromNowOnOfTwo() {
        String both = LIKE + " | minutes 100 | rule '(m=103)*4' | ";
        String first = LIKE + " | minutes 100 | rule '(m=103)*4*(i=0)' | ";
        Edge.of(44, "Questions about MINUTES to come go on from now", first + "apart 0 1 4 ~ 1 | apart 0 1 3 ~ 0");
        Edge.of(45, "Questions about MINUTES to come go on from now", both + "together 0 1 ~ 4 | minutes 4",
            "together 0 1 ~ -2");
        Edge.of(46, "Questions about MINUTES to come go on from now", first + "join 0 1 5 ? 3 | rows 0 3",
            "join 0 1 7 ? 3 | rows 1 4");
        Edge.of(47, "Questions about MINUTES to come go on from now", both + "shows 0 1 1 ~ 2 | shows 1 0 2 ~ -2");
    }

    private static void toCome() {
        Edge.of(22, "FLIES of MINUTES to come: the digit m % (how many)", ONE + " | flies '0004' | rule 'f'",
            "when 0 1 ~ 4 | when 0 2 ~ 8 | minutes 2 | when 0 1 ~ 2 | when 0 60 ~ 238");
        Edge.of(22, "CARROTS of MINUTES to come: both counted", ONE + " | carrot 0 9 10 1 | rule '4*c'",
            "when 0 1 ~ 10 | when 0 2 ~ 11 | when 0 3 ~ -2 | minutes 9 | when 0 1 ~ 1 | when 0 2 ~ 2",
            "when 0 3 ~ -2");
        Edge.of(21, "k STROKES % 12, of MINUTES to come", ONE + " | rule '4*(k<1)' | ahead 0 600 ? 1",
            "rule '4*(k<11)' | ahead 0 600 ? 11 | rule '4' | minutes 11 | rule '4*(k>10)' | ahead 0 600 ? 1");
        Edge.of(21, "HUNGER, PLACE, THISTLES of MINUTES to come, as they are then", "stable '0:0200' | rule '1+t'",
            "ahead 0 2 ? 0 | rows 3 0 | rule '2-(p=1)*2' | ahead 0 600 ? 0 | rows 1 0", "rule '4*(h<3)' | sow 0 1 0",
            "ahead 0 600 ? 3 | rows 0 3");
    }

    /** Each call that reads no TEXT, with a TEXT there. */
    private static void text() {
        String there = LIKE + " | minutes 9 | keep 0 | carrot 0 0 0 1 | sign 0x6D346D34";
        String[] calls = {"7 donkey 0 0", "8 thistles 0 0", "9 sow 0 0 1", "10 set 0 0 1", "11 sheet 2 1 1 1",
            "12 carrot 0 0 0 1", "13 eat", "14 minute", "15 minutes 1", "17 undo", "18 struck 0 1", "19 took 0 1",
            "20 longest 0", "21 ahead 0 1", "22 when 0 1", "23 strikes 0 1", "24 stops 0", "25 eats 0 1",
            "26 owe 0 1 1 0 0", "27 tear", "28 due 0 0 1", "29 owes 0 0 1", "30 reading 0 1", "31 mildest 1",
            "32 leave 0 1 0", "33 sure 0 1 0 1", "34 missed 0 1 1 0", "35 bribe 0 1 1", "36 rests 0 1 1",
            "37 bid 0 1 1", "38 heard 0 0 1", "39 forget", "40 hungers 0", "41 ways 0", "42 swarms", "43 span 0 1",
            "44 apart 0 1 1", "45 together 0 1", "46 join 0 1 1", "47 shows 0 1 1", "48 egg 0 1 1", "49 plant 0 1 1",
            "50 keep 0", "51 again 0", "52 count 0", "53 row 0"};
        for (String call : calls) {
            String name = call.substring(call.indexOf(' ') + 1);
            Edge.of(promiseOf(call), "THE TEXT, which a call that reads it empties: " + name + " does not read it",
                there, name + " | count 9 = 4");
        }
    }

    /** Each call that tells no ROW, with a ROW there. */
    private static void row() {
        String there = LIKE + " | minutes 9 | owe 0 1 1 0 0 | keep 0 | carrot 0 0 0 1 | ahead 0 0 | rows 1 7";
        String[] calls = {"2 sign 0", "3 end 0", "4 stable", "5 flies", "6 rule", "7 donkey 0 0", "8 thistles 0 0",
            "9 sow 0 0 1", "10 set 0 0 1", "11 sheet 2 1 1 1", "12 carrot 0 0 0 1", "13 eat", "17 undo",
            "18 struck 0 1", "19 took 0 1", "22 when 0 1", "24 stops 0", "26 owe 0 1 1 0 0", "27 tear",
            "28 due 0 0 1", "37 bid 0 1 1", "38 heard 0 0 1", "39 forget", "42 swarms", "44 apart 0 1 1",
            "45 together 0 1", "47 shows 0 1 1", "50 keep 0", "51 again 0", "52 count 0", "53 row 0"};
        for (String call : calls) {
            String name = call.substring(call.indexOf(' ') + 1);
            Edge.of(promiseOf(call), "ROW: numbers told last by a call that says so: " + name + " does not",
                there, name + " | rows 1 7");
        }
    }

    private static int promiseOf(String call) {
        return Integer.parseInt(call.substring(0, call.indexOf(' ')));
    }
}
