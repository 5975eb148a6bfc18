/** Boundary cases of promises 14 to 20: MINUTES that go by, a DAY, what is undone, THE BOOK. */
final class MinutesEdges {
    private static final String ONE = "stable '5:0000'";
    private static final String TWO = "stable '5:0000;5:00000'";

    private MinutesEdges() {
    }

    static void run() {
        minute();
        stepping();
        minutes();
        dayActs();
        dayDone();
        daySigns();
        dayLength();
        undo();
        undoOfDay();
        undoForgets();
        struck();
        took();
        longest();
    }

    private static void minute() {
        Edge.of(14, "how many STROKES all struck in it: none, and all", "stable '5:0000;5:0000;5:0000' | minute = 0",
            "rule '4' | minute = 3");
        Edge.of(14, "DONKEYS (bits) that ate a THISTLE: none, and all", "stable '5:0100;5:0100;5:0100' | minute = 0",
            "rows 7 0 | minute = 0 | rows 0 0");
        Edge.of(14, "DONKEYS (bits) that ate a THISTLE: the last one alone", "stable '5:0000;5:0000;5:0100' | minute",
            "rows 4 0");
        Edge.of(14, "DONKEYS (bits) that did not step: all", "stable '5:0000;5:0000;5:0000' | rule '0' | minute = 0",
            "rows 0 7 | count 1 = 1");
        Edge.of(14, "DONKEYS (bits) that did not step: the first and the last alone", "stable '5:0000;5:0000;5:0000'",
            "rule 'i=0' | minute | rows 0 6 | rule 'i<2' | minute | rows 0 4");
        Edge.of(14, "who stands ahead of a THISTLE did not step, and ate none", "stable '5:2000' | rule '0' | minute",
            "rows 0 1 | count 5 = 2");
        Edge.of(14, "of no DONKEYS", "minute = 0 | rows 0 0 | count 6 = 1");
        Edge.of(14, "NOW is 1 more", "minute | count 1 = 1 | " + ONE + " | minute | count 1 = 2");
    }

    private static void stepping() {
        String fast = " | rule '4' | minute = 1 | ";
        Edge.of(14, "HUNGER is 1 more, 9 at most", "stable '9:0000;8:0000;7:0000' | rule '4' | minute = 3",
            "donkey 0 0 = 9 | donkey 1 0 = 9 | donkey 2 0 = 8");
        Edge.of(14, "HUNGER 2 less, 0 at least", "stable '0:0100;1:0100;2:0100' | minute | rows 7 0 | donkey 0 0 = 0",
            "donkey 1 0 = 0 | donkey 2 0 = 0");
        Edge.of(14, "HUNGER 2 less of 3", "stable '3:0100' | minute | donkey 0 0 = 1");
        Edge.of(14, "on PLACE 0 it strikes first, then eats", "stable '9:1000;0:1000' | rule '4' | minute = 2",
            "donkey 0 0 = 7 | donkey 1 0 = 0");
        Edge.of(14, "round and round: behind the last PLACE", "stable '5:0000' | minutes 3 | donkey 0 1 = 3",
            "minute = 1 | donkey 0 1 = 0 | minute = 0 | donkey 0 1 = 1");
        Edge.of(14, "round and round: of twelve PLACES", "stable '5:000000000000' | set 0 1 11 | minute = 1",
            "donkey 0 1 = 0");
        Edge.of(14, "round and round: in the midst of its steps", "stable '5:00000'",
            "set 0 1 3" + fast + "donkey 0 1 = 2");
        Edge.of(14, "it strikes stepping onto PLACE 0, not from it", "stable '5:0000' | minute = 0 | donkey 0 2 = 0",
            "set 0 1 3 | minute = 1 | minute = 0 | donkey 0 2 = 1");
        Edge.of(14, "it eats one", "stable '5:0900' | minute | thistles 0 1 = 8 | donkey 0 0 = 3");
        Edge.of(14, "it eats the last one; a PLACE without THISTLES does not stop it", "stable '5:0100' | rule '2'",
            "minute | donkey 0 1 = 1 | thistles 0 1 = 0 | set 0 1 0 | minute | rows 0 0 | donkey 0 1 = 2");
        Edge.of(14, "and steps no more in this MINUTE", "stable '5:0110' | rule '4' | minute = 0 | donkey 0 1 = 1",
            "minute = 0 | donkey 0 1 = 2 | minute = 1 | donkey 0 1 = 2");
        Edge.of(14, "THISTLES on the PLACE from which it steps do not stop it", "stable '5:9000' | rule '2' | minute",
            "rows 0 0 | donkey 0 1 = 2 | count 5 = 9");
        Edge.of(14, "steps PACE times: as the PACE was ahead of the first", "stable '5:0000' | rule '3-p' | minute",
            "donkey 0 1 = 3 | minute | donkey 0 1 = 3");
        Edge.of(14, "PACE 4 on a ROUND of 4: one STROKE a MINUTE", ONE + " | rule '9' | minutes 40 = 40",
            "struck 0 40 = 39 | struck 0 1 = 0");
        Edge.of(14, "A STROKE is struck in the MINUTE that went by (its number: NOW ahead of it)",
            ONE + " | minutes 3 | count 1 = 3 | minute = 1 | struck 0 1 = 3");
    }

    private static void minutes() {
        Edge.of(15, "n MINUTES (0 ..): none", TWO + " | minutes 0 = 0 | rows 0 0 0 | count 1 = 0 | minutes -1 ~ -1",
            "minutes -2147483648 ~ -1");
        Edge.of(15, "n MINUTES (.. 600)", TWO + " | minutes 600 = 270 | rows 0 150 120 | count 1 = 600",
            "minutes 601 ~ -1 | minutes 2147483647 ~ -1");
        Edge.of(15, "n MINUTES: one", ONE + " | set 0 1 3 | minutes 1 = 1 | rows 0 1 | count 1 = 1");
        Edge.of(15, "NONE: the ROW stays", ONE + " | minutes 4 | rows 0 1 | minutes 601 ~ -1 | rows 0 1");
        Edge.of(15, "STROKES of each DONKEY: of none, of three", "minutes 9 = 0 | rows 0",
            "stable '5:0000;5:00000;5:000000' | minutes 20 = 12 | rows 0 5 4 3");
        Edge.of(15, "STROKES in these", ONE + " | minutes 40 = 10 | minutes 7 = 1 | rows 0 1 | minutes 1 = 1",
            "rows 0 1");
        Edge.of(15, "how many THISTLES were eaten: none, some, all", "stable '5:0103;5:0010' | minutes 0",
            "rows 0 0 0 | minutes 2 | rows 2 0 0 | minutes 600 | rows 3 150 150");
    }

    private static String can(String acts, int done, String row) {
        return "day '" + acts + "' = " + done + " | rows " + row;
    }

    private static void dayActs() {
        Edge.of(16, "an empty one: no ACTS", ONE + " | day ? 0 | rows 0 0");
        Edge.of(16, "m: so many MINUTES (above 600: can't be)", ONE,
            can("m600", 1, "0 150") + " | day 'm601' ? 0 | rows 1 0 | day 'm999' ? 0 | rows 1 0");
        Edge.of(16, "m: no MINUTES", ONE + " | " + can("m0", 1, "0 0"),
            can("m00;m000", 2, "0 0") + " | count 1 = 0");
        Edge.of(16, "m: a number (1 to 3 digits)", ONE + " | " + can("m4;m04;m004", 3, "0 3") + " | day 'm0004' ~ -5",
            "day 'm' ~ -2");
        Edge.of(16, "c: a CARROT for so many MINUTES (0: can't be)", ONE + " | day 'c0+0' ? 0 | rows 1 0",
            "day 'c0-00' ? 0 | rows 1 0 | " + can("c0+1;c0-01", 2, "0 0"));
        Edge.of(16, "c: for so many MINUTES from now on: one", ONE + " | rule '2+c' | minutes 5 | day 'c0+1'",
            "donkey 0 6 = 3 | minute | donkey 0 6 = 2");
        Edge.of(16, "c: for so many MINUTES from now on: 99", ONE + " | rule '2+c' | minute | day 'c0-99' = 1",
            "donkey 0 6 = 1 | minutes 98 | donkey 0 6 = 1 | minute | donkey 0 6 = 2");
        Edge.of(16, "c: a number (1 or 2 digits)", ONE + " | day 'c0+' ~ -4 | day 'c0+001' ~ -6 | day 'c0+100' ~ -6");
        Edge.of(16, "c: ten CARROTS are there", ONE + " | 9x carrot 0 5 5 1 | day 'c0+1;c0+1;m1' = 1 | rows 1 0",
            "count 2 = 10 | count 1 = 0 | day 'c0-1' ? 0 | rows 1 0");
        Edge.of(16, "s: sow(): each PLACE, each digit",
            "stable '5:000000000000' | " + can("s00=9;s011=7;s07=1;s007=0", 4, "0 0"), "thistles 0 0 = 9",
            "thistles 0 11 = 7 | thistles 0 7 = 0");
        Edge.of(16, "s: a PLACE that is not there", "stable '5:00000' | day 's05=1' ? 0 | rows 1 0",
            "day 's012=1' ? 0 | day 's099=1' ? 0 | " + can("s04=1", 1, "0 0"));
        Edge.of(16, "s: a PLACE (1 or 2 digits)", ONE + " | day 's0=1' ~ -3",
            "day 's0000=1' ~ -5 | " + can("s003=1", 1, "0 0"));
        Edge.of(16, "h: HUNGER 0 and 9", ONE,
            can("h0=9", 1, "0 0") + " | donkey 0 0 = 9 | " + can("h0=0", 1, "0 0") + " | donkey 0 0 = 0");
        Edge.of(16, "s, h: what was 0 can be changed, too", ONE,
            can("h0=0;h0=5", 2, "0 0") + " | donkey 0 0 = 5 | " + can("s00=0;s00=5", 2, "0 0") + " | thistles 0 0 = 5");
        Edge.of(16, "DONKEYS are digits, whether there or not", TWO + " | day 'c2+1' ? 0 | rows 1 0",
            "day 's20=1' ? 0 | rows 1 0 | day 'h2=1' ? 0 | rows 1 0",
            can("c1+1;s10=1;h1=1", 3, "0 0") + " | day 'h9=1' ? 0");
        Edge.of(16, "DONKEYS are digits: of no DONKEYS", "day 'h0=1' ? 0 | rows 1 0 | day 's00=1' ? 0",
            "day 'c0+1' ? 0 | " + can("m5", 1, "0 0"));
    }

    private static void dayDone() {
        Edge.of(16, "they are done one by one, till one can't be", ONE + " | day 'm4;h0=1;h1=1;m4' = 2 | rows 1 1",
            "count 1 = 4 | donkey 0 0 = 1");
        Edge.of(16, "till one can't be: the first", ONE + " | day 'm601;m4;h0=1' ? 0 | rows 1 0");
        Edge.of(16, "till one can't be: the last", ONE + " | day 'm4;m4;m601' = 2 | rows 1 2 | count 1 = 8");
        Edge.of(16, "1 if one could not be, else 0", ONE + " | " + can("m1;h0=2", 2, "0 0"),
            can("m1;h1=2", 1, "1 0"));
        Edge.of(16, "STROKES in them: of all", TWO + " | minutes 40 | " + can("m20;h0=1;m20", 3, "0 18"));
        Edge.of(16, "a call that reads THE TEXT empties it", ONE + " | day 'm1' = 1 | count 9 = 0 | day 'm601' = 0",
            "count 9 = 0 | day 'x' = -1 | count 9 = 0");
        Edge.of(16, "nothing is done then, and the ROW stays", ONE + " | minutes 4 | day 'm4;x' ~ -4",
            "day 'h0=1;m' ~ -7 | rows 0 1 | count 6 = 1");
    }

    private static void daySigns() {
        Edge.of(16, "the sign at p can't stand there: what an ACT begins with", ONE + " | day 'x' ~ -1",
            "day ';' ~ -1 | day 'M4' ~ -1 | day '4' ~ -1 | day 'm1; m1' ~ -4");
        Edge.of(16, "the sign at p can't stand there: behind m", ONE + " | day 'mx' ~ -2 | day 'm-1' ~ -2",
            "day 'm1x' ~ -3 | day 'm4m4' ~ -3 | day 'm123m' ~ -5");
        Edge.of(16, "the sign at p can't stand there: behind c", ONE + " | day 'cx' ~ -2 | day 'c+1' ~ -2",
            "day 'c0=1' ~ -3 | day 'c01' ~ -3 | day 'c0+x' ~ -4 | day 'c0-1-' ~ -5");
        Edge.of(16, "the sign at p can't stand there: behind s", ONE + " | day 'sx' ~ -2 | day 's0x' ~ -3",
            "day 's00+' ~ -4 | day 's00=x' ~ -5 | day 's00=12' ~ -6 | day 's0=' ~ -3");
        Edge.of(16, "the sign at p can't stand there: behind h", ONE + " | day 'hx' ~ -2 | day 'h0+' ~ -3",
            "day 'h00=1' ~ -3 | day 'h0=x' ~ -4 | day 'h0=10' ~ -5 | day 'h0=-' ~ -4");
        Edge.of(16, "its end, if it ends too early: of m, c", ONE + " | day 'm' ~ -2 | day 'c' ~ -2 | day 'c0' ~ -3",
            "day 'c0+' ~ -4 | day 'c0-' ~ -4");
        Edge.of(16, "its end, if it ends too early: of s, h", ONE + " | day 's' ~ -2 | day 's0' ~ -3",
            "day 's00' ~ -4 | day 's000' ~ -5 | day 's00=' ~ -5 | day 'h' ~ -2");
        Edge.of(16, "its end, if it ends too early: of h", ONE + " | day 'h0' ~ -3 | day 'h0=' ~ -4");
        Edge.of(16, "its end, if it ends too early: behind ;", ONE + " | day 'm1;' ~ -4 | day 'm1;m1;' ~ -7",
            "day 'm1;;m1' ~ -4");
        Edge.of(16, "a sign of number 0 can't stand there", ONE + " | sign 0x6D310000 | day ~ -3 | sign 0",
            "day ~ -1");
    }

    private static void dayLength() {
        String twenty = "m0;m0;m0;m0;m0;m0;m0;m0;m0;m0;m0;m0;m0;m0;m0;m0;m0;m0;m0;m4";
        Edge.of(16, "60 signs: 59 and 60 stand", ONE + " | " + can(twenty, 20, "0 1"),
            can(twenty + "0", 20, "0 10"));
        Edge.of(16, "its end, if it ends too early: behind 60 signs", ONE + " | day '" + twenty + ";' ~ -61");
        Edge.of(16, "60, if it has more and the first 60 could end", ONE + " | day '" + twenty + "00' ~ -61",
            "day '" + twenty + "0x' ~ -61 | day '" + twenty + "0;' ~ -61");
        Edge.of(16, "60, if it has more and the first 60 could go on", ONE + " | day '" + twenty + ";m0' ~ -61",
            "day '" + twenty + ";x' ~ -61");
        Edge.of(16, "the sign at p can't stand there, ahead of more than 60", ONE + " | day 'm0m" + twenty + "' ~ -3",
            "day '" + twenty + "m" + twenty.substring(40) + "' ~ -60");
    }

    private static void undo() {
        Edge.of(17, "Refused: none", "undo ~ -1 | " + ONE + " | undo ~ -1 | minute | undo = 0 | undo ~ -1");
        Edge.of(17, "of 10 that are kept", ONE + " | 9x minute | count 6 = 9 | minute | count 6 = 10 | minute",
            "count 6 = 10 | undo = 9");
        Edge.of(17, "the latest ones", ONE + " | 12x minute | 9x undo | count 1 = 3 | undo = 0 | count 1 = 2",
            "undo ~ -1");
        Edge.of(17, "the latest ones: eleven go round again and again", ONE + " | 34x minute | 10x undo",
            "count 1 = 24 | 11x minute | undo = 9 | count 1 = 34 | undo = 8");
        Edge.of(17, "minutes() of 1 and more", ONE + " | minutes 0 | count 6 = 0 | minutes 601 | minutes -1",
            "count 6 = 0 | minutes 1 | count 6 = 1 | minutes 600 | count 6 = 2");
        Edge.of(17, "minutes(0) drives out none", ONE + " | 10x minute | minutes 0 | 10x undo | count 1 = 0");
        Edge.of(17, "minutes() are undone as one", ONE + " | minutes 600 | undo = 0 | count 1 = 0 | count 4 = 0");
        Edge.of(17, "how many are left that can be", ONE + " | minute | minutes 5 | day 'm1' | count 6 = 3",
            "undo = 2 | undo = 1 | undo = 0");
        Edge.of(17, "a MINUTE of no DONKEYS can be undone", "minute | undo = 0 | count 1 = 0");
        Edge.of(17, "NOW", ONE + " | minutes 7 | minute | undo | count 1 = 7 | undo | count 1 = 0");
        Edge.of(17, "THISTLES", "stable '5:0303' | minute | minutes 9 | undo | thistles 0 1 = 2 | thistles 0 3 = 3",
            "undo | thistles 0 1 = 3");
        Edge.of(17, "THISTLES that were sown since, too", ONE + " | minute | sow 0 2 7 | undo | thistles 0 2 = 0");
        Edge.of(17, "HUNGER", ONE + " | minutes 4 | minutes 8 | donkey 0 0 = 8 | undo | donkey 0 0 = 6 | undo",
            "donkey 0 0 = 5");
        Edge.of(17, "PLACES", TWO + " | minutes 2 | minutes 5 | undo | donkey 0 1 = 2 | donkey 1 1 = 2 | undo",
            "donkey 1 1 = 0");
        Edge.of(17, "STROKES", TWO + " | minutes 20 | minutes 20 | undo | donkey 0 2 = 5 | donkey 1 2 = 4 | undo",
            "count 4 = 0");
        Edge.of(17, "THE BOOK", ONE + " | minutes 160 | minutes 8 | struck 0 2 ~ -3 | undo | struck 0 1 = 3",
            "struck 0 40 = 159 | struck 0 41 ~ -2 | longest 0 = 1");
        Edge.of(17, "of minute(), minutes() CARROTS stay", ONE + " | carrot 0 0 9 1 | minute | carrot 0 0 9 1",
            "minutes 5 | eat | eat | undo | count 2 = 0 | carrot 0 1 1 1 | undo | count 2 = 1");
        Edge.of(17, "the ROW stays, told or not", ONE + " | minutes 4 | rows 0 1 | undo | rows 0 1");
    }

    private static void undoOfDay() {
        Edge.of(17, "day() of which one ACT was done", ONE + " | day | day 'm601' | day 'h1=1;m1' | day 'x'",
            "day 'm1;' | count 6 = 0 | day 'm1;m601' | count 6 = 1");
        Edge.of(17, "day() of which one ACT was done: one without MINUTES", ONE + " | day 'm0' | count 6 = 1",
            "day 'h0=1' | count 6 = 2 | day 's00=1' | count 6 = 3 | day 'c0+1' | count 6 = 4");
        Edge.of(17, "as one", ONE + " | day 'm1;m1;m1;h0=1' | count 6 = 1 | undo = 0 | count 1 = 0 | donkey 0 0 = 5");
        Edge.of(17, "a day() of which no ACT was done drives out none", ONE + " | 10x minute | day 'm601' | day",
            "count 6 = 10 | 10x undo | count 1 = 0");
        Edge.of(17, "of day() CARROTS are as ahead of it: those that it brought", ONE + " | carrot 0 0 9 1",
            "day 'c0+5;c0-5' | count 2 = 3 | undo = 0 | count 2 = 1");
        Edge.of(17, "of day() CARROTS are as ahead of it: eaten since, or come since", ONE + " | rule '1+c'",
            "carrot 0 0 9 1 | day 'm1' | eat | carrot 0 0 9 -1 | carrot 0 0 9 -1", "undo = 0 | count 2 = 1",
            "donkey 0 6 = 2");
        Edge.of(17, "of day() CARROTS are as ahead of it: of the same DONKEY, from and to the same MINUTES",
            TWO + " | rule '2+c' | carrot 1 2 3 1 | day 'm0' | eat | carrot 0 0 9 -1 | undo", "donkey 0 6 = 2",
            "donkey 1 6 = 2 | minutes 2 | donkey 1 6 = 3 | minutes 2 | donkey 1 6 = 2");
        Edge.of(17, "of a day() that is undone behind others", ONE + " | day 'c0+5;m1' | minute | carrot 0 0 9 1",
            "undo = 1 | count 2 = 2 | undo = 0 | count 2 = 0");
        Edge.of(17, "of day() THISTLES and HUNGER that it changed", "stable '5:1111' | day 's00=9;h0=1;m601'",
            "undo = 0 | thistles 0 0 = 1 | donkey 0 0 = 5");
    }

    private static void undoForgets() {
        Edge.of(17, "stable() forgets them", ONE + " | minute | minute | " + ONE + " = 1 | count 6 = 0 | undo ~ -1",
            "count 1 = 2 | minute | undo = 0");
        Edge.of(17, "stable() forgets them, if it is not refused", ONE + " | minute | stable 'x' | stable '5:000'",
            "stable '5:0000;5:0000;5:0000' | count 6 = 1 | undo = 0");
        Edge.of(17, "an empty stable() does not", ONE + " | minute | stable = 0 | count 6 = 1 | undo = 0",
            "count 1 = 0");
        Edge.of(17, "again() forgets them", ONE + " | keep 0 | minute | minute | again 0 = 1 | count 6 = 0",
            "undo ~ -1");
        Edge.of(17, "again() forgets them, if it is not refused", ONE + " | minute | again 0 = 0 | again 2 = 0",
            "again -1 = 0 | count 6 = 1 | keep 0 | count 6 = 1 | undo = 0");
        Edge.of(17, "again() forgets them, if it is not refused: DONKEYS came since",
            ONE + " | keep 0 | " + ONE + " | minute | again 0 = 0 | undo = 0");
    }

    private static void struck() {
        Edge.of(18, "STROKE n (1 ..)", ONE + " | minutes 8 | struck 0 0 ~ -1 | struck 0 -1 ~ -1",
            "struck 0 -2147483648 ~ -1 | struck 0 1 = 3 | struck 0 2 = 7");
        Edge.of(18, "-2: not yet", ONE + " | struck 0 1 ~ -2 | minutes 4 | struck 0 1 = 3 | struck 0 2 ~ -2",
            "struck 0 2147483647 ~ -2");
        Edge.of(18, "-3: not known any more", ONE + " | minutes 160 | struck 0 1 = 3 | minutes 4 | struck 0 1 ~ -3",
            "struck 0 2 = 7 | struck 0 41 = 163 | struck 0 42 ~ -2");
        Edge.of(18, "the last 40 of each are known", TWO + " | minutes 200 | struck 0 10 ~ -3 | struck 0 11 = 43",
            "struck 1 1 = 4 | struck 1 40 = 199 | minutes 5 | struck 1 1 ~ -3");
        Edge.of(18, "NONE: none such", ONE + " | minutes 4 | struck 1 1 ~ -1 | struck -1 1 ~ -1",
            "struck 2147483647 1 ~ -1 | struck 1 99 ~ -1");
        Edge.of(18, "NONE is asked ahead of -3", ONE + " | minutes 400 | struck 0 1 ~ -3 | struck 0 0 ~ -1",
            "struck 1 1 ~ -1");
        Edge.of(18, "NONE: no DONKEYS", "struck 0 1 ~ -1");
    }

    private static void took() {
        Edge.of(19, "-2: not yet", ONE + " | took 0 1 ~ -2 | minutes 7 | took 0 1 ~ -2 | took 0 2 ~ -2 | minute",
            "took 0 1 = 4 | took 0 2 ~ -2 | took 0 2147483647 ~ -2");
        Edge.of(19, "-3: not known any more", ONE + " | minutes 160 | took 0 1 = 4 | minutes 4 | took 0 1 ~ -3",
            "took 0 2 = 4 | took 0 40 = 4 | took 0 41 ~ -2");
        Edge.of(19, "NONE: n below 1", ONE + " | minutes 400 | took 0 0 ~ -1 | took 0 -1 ~ -1",
            "took 0 -2147483648 ~ -1 | took 0 61 = 4");
        Edge.of(19, "NONE: none such", ONE + " | minutes 400 | took 1 1 ~ -1 | took -1 61 ~ -1 | took 1 999 ~ -1");
        Edge.of(19, "one MINUTE, from MINUTE 0 on", ONE + " | rule '4' | minutes 2 | struck 0 1 = 0 | took 0 1 = 1");
    }

    private static void longest() {
        String held = ONE + " | rule '1+c' | carrot 0 8 10 -1 | carrot 0 11 12 1 | ";
        Edge.of(20, "-2: none is known", ONE + " | longest 0 ~ -2 | minutes 4 | longest 0 ~ -2 | minutes 3",
            "longest 0 ~ -2 | minute | longest 0 = 1 | rows 4 1 4");
        Edge.of(20, "of equal ones the first", ONE + " | minutes 80 | longest 0 = 1 | rows 4 1 4");
        Edge.of(20, "of equal ones the first: behind another one", ONE + " | rule '1+c' | carrot 0 4 4 1",
            "carrot 0 20 20 1 | minutes 80 | longest 0 = 2 | rows 4 1 3");
        Edge.of(20, "both STROKES known: the first HOUR that is not any more", ONE + " | rule '1+c'",
            "carrot 0 5 7 -1 | minutes 163 | longest 0 = 1 | rows 7 2 4 | minutes 4 | longest 0 = 2 | rows 4 2 4");
        Edge.of(20, "both STROKES known: the oldest one that is", held + "minutes 168 | longest 0 = 2 | rows 5 3 4",
            "minutes 4 | longest 0 = 3 | rows 4 3 4");
        Edge.of(20, "the longest is the latest", ONE + " | rule '1+c' | minutes 160 | carrot 0 160 162 -1",
            "minutes 7 | longest 0 = 40 | rows 7 2 4");
        Edge.of(20, "the shortest is the latest", ONE + " | rule '1+c' | minutes 160 | carrot 0 160 162 1",
            "minutes 2 | longest 0 = 2 | rows 4 40 2");
        Edge.of(20, "NONE: none such", ONE + " | minutes 9 | longest 1 ~ -1 | longest -1 ~ -1",
            "longest 2147483647 ~ -1 | longest -2147483648 ~ -1");
        Edge.of(20, "NONE: no DONKEYS", "longest 0 ~ -1");
    }
}
