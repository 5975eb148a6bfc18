/** Boundary cases of promises 7 to 13: DONKEYS, THISTLES, a sheet, CARROTS. */
final class StableEdges {
    private static final String ONE = "stable '5:0000'";
    private static final String TWO = "stable '5:0000;5:00000'";

    private StableEdges() {
    }

    static void run() {
        donkey();
        thistles();
        sow();
        set();
        sheetEntries();
        sheetRefused();
        carrot();
        eat();
    }

    private static void donkey() {
        Edge.of(7, "NoSuchElementException: none such", TWO + " | donkey 0 0 = 5 | donkey 1 0 = 5 | donkey 2 0 ~ !",
            "donkey -1 0 ~ !", "donkey 3 0 ~ ! | donkey 2147483647 0 ~ ! | donkey -2147483648 0 ~ !");
        Edge.of(7, "NoSuchElementException: none such, of no DONKEYS", "donkey 0 0 ~ ! | donkey 0 6 ~ !",
            "donkey -1 -1 ~ !");
        Edge.of(7, "NoSuchElementException: another what", ONE + " | donkey 0 -1 ~ ! | donkey 0 7 ~ !",
            "donkey 0 2147483647 ~ !", "donkey 0 -2147483648 ~ ! | donkey 0 0 = 5 | donkey 0 6 = 1");
        Edge.of(7, "NoSuchElementException: none is thrown of three DONKEYS", "stable '5:0000;5:0000;9:0000'",
            "donkey 2 0 = 9 | donkey 3 0 ~ !");
        Edge.of(7, "0: HUNGER", "stable '0:0000;9:0000' | donkey 0 0 = 0 | donkey 1 0 = 9");
        Edge.of(7, "1: PLACE", ONE + " | donkey 0 1 = 0 | minutes 3 | donkey 0 1 = 3 | minute | donkey 0 1 = 0");
        Edge.of(7, "2: STROKES", ONE + " | donkey 0 2 = 0 | minutes 3 | donkey 0 2 = 0 | minute | donkey 0 2 = 1",
            "minutes 48 | donkey 0 2 = 13");
        Edge.of(7, "3: the HOUR: STROKES % 12", ONE + " | donkey 0 3 = 0 | minutes 44 | donkey 0 3 = 11 | minutes 4",
            "donkey 0 3 = 0", "minutes 4 | donkey 0 3 = 1");
        Edge.of(7, "4: how many PLACES its ROUND has", "stable '5:0000;5:000000000000' | donkey 0 4 = 4",
            "donkey 1 4 = 12");
        Edge.of(7, "5: all THISTLES on it", "stable '5:0000;5:999999999999' | donkey 0 5 = 0 | donkey 1 5 = 108",
            "sow 1 11 0 | donkey 1 5 = 99");
        Edge.of(7, "6: PACE in the MINUTE that is now", ONE + " | rule 'm=1' | donkey 0 6 = 0 | minute",
            "donkey 0 6 = 1 | minute | donkey 0 6 = 0");
    }

    private static void thistles() {
        Edge.of(8, "NONE: none such PLACE", "stable '5:1234;5:567891' | thistles 0 0 = 1 | thistles 0 3 = 4",
            "thistles 0 4 ~ -1", "thistles 0 -1 ~ -1 | thistles 1 5 = 1 | thistles 1 6 ~ -1");
        Edge.of(8, "NONE: none such PLACE, far off", ONE + " | thistles 0 11 ~ -1 | thistles 0 12 ~ -1",
            "thistles 0 2147483647 ~ -1", "thistles 0 -2147483648 ~ -1");
        Edge.of(8, "NONE: none such PLACE of twelve", "stable '5:123456789012' | thistles 0 11 = 2",
            "thistles 0 12 ~ -1");
        Edge.of(8, "NONE: none such DONKEY", ONE + " | thistles 1 0 ~ -1 | thistles -1 0 ~ -1 | thistles 3 0 ~ -1",
            "thistles 2147483647 0 ~ -1 | thistles -2147483648 0 ~ -1");
        Edge.of(8, "NONE: none such of no DONKEYS", "thistles 0 0 ~ -1");
    }

    private static void sow() {
        Edge.of(9, "v (0 .. 9)", "stable '5:0400' | sow 0 1 10 ~ -1 | sow 0 1 -1 ~ -1 | sow 0 1 9 = 4",
            "thistles 0 1 = 9", "sow 0 1 0 = 9 | thistles 0 1 = 0");
        Edge.of(9, "v (0 .. 9): far off", "stable '5:0400' | sow 0 1 2147483647 ~ -1 | sow 0 1 -2147483648 ~ -1",
            "sow 0 1 265 ~ -1");
        Edge.of(9, "Refused: another PLACE", "stable '5:1234' | sow 0 4 5 ~ -1 | sow 0 -1 5 ~ -1",
            "sow 0 2147483647 5 ~ -1", "sow 0 3 5 = 4 | sow 0 0 5 = 1 | thistles 0 3 = 5 | thistles 0 0 = 5");
        Edge.of(9, "Refused: another PLACE than twelve", "stable '5:123456789012' | sow 0 12 5 ~ -1 | sow 0 11 5 = 2",
            "thistles 0 11 = 5");
        Edge.of(9, "Refused: another DONKEY", TWO + " | sow 2 0 5 ~ -1 | sow -1 0 5 ~ -1 | sow 1 4 5 = 0",
            "thistles 1 4 = 5 | thistles 0 0 = 0");
        Edge.of(9, "Refused: no DONKEYS", "sow 0 0 5 ~ -1");
        Edge.of(9, "what they were: 0, and the same again", ONE + " | sow 0 2 0 = 0 | sow 0 2 7 = 0 | sow 0 2 7 = 7");
    }

    private static void set() {
        Edge.of(10, "HUNGER (what 0; 0 .. 9)", ONE + " | set 0 0 10 ~ -1 | set 0 0 -1 ~ -1 | set 0 0 9 = 5",
            "donkey 0 0 = 9", "set 0 0 0 = 9 | donkey 0 0 = 0 | set 0 0 2147483647 ~ -1");
        Edge.of(10, "PLACE (1; one of its ROUND)", TWO + " | set 0 1 4 ~ -1 | set 0 1 -1 ~ -1 | set 0 1 3 = 0",
            "donkey 0 1 = 3", "set 1 1 4 = 0 | donkey 1 1 = 4 | set 1 1 5 ~ -1 | set 0 1 0 = 3 | donkey 0 1 = 0");
        Edge.of(10, "PLACE (1; one of its ROUND): HUNGERS beyond, PLACES beyond 9", "stable '5:000000000000'",
            "set 0 1 11 = 0", "donkey 0 1 = 11 | set 0 1 12 ~ -1 | set 0 0 11 ~ -1");
        Edge.of(10, "Refused: another what", ONE + " | set 0 2 1 ~ -1 | set 0 -1 1 ~ -1 | set 0 2147483647 1 ~ -1");
        Edge.of(10, "Refused: another DONKEY", ONE + " | set 1 0 1 ~ -1 | set -1 0 1 ~ -1 | set 1 1 1 ~ -1",
            "set -1 1 1 ~ -1");
        Edge.of(10, "Refused: no DONKEYS", "set 0 0 1 ~ -1 | set 0 1 1 ~ -1");
        Edge.of(10, "what it was: the same again", ONE + " | set 0 0 5 = 5 | set 0 1 0 = 0");
        Edge.of(10, "put onto a PLACE it neither strikes nor eats", "stable '5:1111' | set 0 1 2 = 0 | set 0 1 0 = 2",
            "donkey 0 2 = 0 | donkey 0 5 = 4 | donkey 0 0 = 5");
    }

    private static void sheetEntries() {
        Edge.of(11, "put to 0 .. 9", "stable '5:7777' | sheet 2 4 8 1 = 35 | thistles 0 1 = 9 | thistles 0 2 = 9",
            "sheet 2 4 1 -1 = 1", "thistles 0 0 = 1 | thistles 0 1 = 0 | thistles 0 2 = 0");
        Edge.of(11, "of no entries", "stable '5:7777' | sheet 0 0 5 0 = 0 | sow 0 1 3 | sheet 1 0 5 0 = 0",
            "sow 0 1 3 | sheet 2 0 5 0 = 0 | count 5 = 0");
        Edge.of(11, "those behind it have 0", "stable '5:77777' | sheet 2 4 1 0 = 4 | thistles 0 3 = 1",
            "thistles 0 4 = 0 | sheet 2 1 5 0 = 5 | thistles 0 1 = 0");
        Edge.of(11, "entries beyond them are left aside", "stable '5:7777' | sheet 2 5 1 1 = 10",
            "sheet 2 12 1 1 = 10 | thistles 0 3 = 4 | sheet 2 4 1 1 = 10");
        Edge.of(11, "as many entries as twelve PLACES", "stable '5:777777777777' | sheet 2 12 1 0 = 12",
            "thistles 0 11 = 1 | sheet 2 11 1 0 = 11 | thistles 0 11 = 0");
        Edge.of(11, "the sum of all that there are: on DONKEY 0", "stable '5:7777;5:9999' | sheet 2 2 3 1 = 7",
            "donkey 1 5 = 36 | donkey 0 5 = 7");
        Edge.of(11, "of bytes the lowest bits, with their sign", "stable '5:7777' | sheet 0 1 127 0 = 9",
            "sheet 0 1 128 0 = 0 | sheet 0 1 255 0 = 0", "sheet 0 1 256 0 = 0 | sheet 0 1 259 0 = 3",
            "sheet 0 1 -252 0 = 4 | sheet 0 1 -128 0 = 0 | sheet 0 1 -129 0 = 9");
        Edge.of(11, "of shorts the lowest bits, with their sign", "stable '5:7777' | sheet 1 1 32767 0 = 9",
            "sheet 1 1 32768 0 = 0 | sheet 1 1 65535 0 = 0", "sheet 1 1 65536 0 = 0 | sheet 1 1 65539 0 = 3",
            "sheet 1 1 -65532 0 = 4 | sheet 1 1 128 0 = 9 | sheet 1 1 -32769 0 = 9");
        Edge.of(11, "ints are as they are", "stable '5:7777' | sheet 2 1 128 0 = 9 | sheet 2 1 32768 0 = 9",
            "sheet 2 1 2147483647 0 = 9 | sheet 2 1 -2147483648 0 = 0");
        Edge.of(11, "f, f + step, ..: they wrap around", "stable '5:7777' | sheet 2 2 2147483647 1 = 9",
            "sheet 2 3 2147483647 2147483647 = 18 | thistles 0 1 = 0 | thistles 0 2 = 9",
            "sheet 2 2 -2147483648 -2147483647 = 1 | sheet 0 3 255 2 = 4");
    }

    private static void sheetRefused() {
        String x = "stable '5:1234' | ";
        Edge.of(11, "NONE: another kind", x + "sheet -1 3 5 2 ~ -1 | sheet 4 3 5 2 ~ -1",
            "sheet 2147483647 3 5 2 ~ -1 | sheet -2147483648 3 5 2 ~ -1");
        Edge.of(11, "NONE: another kind, asked ahead of n below 0", x + "sheet -1 -1 5 2 ~ -1 | sheet 4 -1 5 2 ~ -1");
        Edge.of(11, "NONE: n above 12", x + "sheet 0 13 5 2 ~ -1 | sheet 1 13 5 2 ~ -1 | sheet 2 13 5 2 ~ -1",
            "sheet 2 2147483647 5 2 ~ -1 | sheet 2 12 0 1 = 6");
        Edge.of(11, "NONE: n above 12, asked ahead of missing", x + "sheet 3 13 5 2 ~ -1",
            "sheet 3 2147483647 5 2 ~ -1 | sheet 3 12 5 2 = -3");
        Edge.of(11, "NONE: no DONKEYS, asked ahead of others", "sheet 0 3 5 2 ~ -1 | sheet 0 -1 5 2 ~ -1",
            "sheet 3 3 5 2 ~ -1");
        Edge.of(11, "-2: n below 0 (nothing changes)", x + "sheet 0 -1 5 2 ~ -2 | sheet 1 -1 5 2 ~ -2",
            "sheet 2 -1 5 2 ~ -2 | sheet 2 -2147483648 5 2 ~ -2");
        Edge.of(11, "-3: missing (all 0)", x + "sheet 3 3 5 2 = -3 | donkey 0 5 = 0 | sow 0 3 1 | sheet 3 0 5 2 = -3",
            "thistles 0 3 = 0");
        Edge.of(11, "-2: of kinds 0 .. 2, not of a missing one", x + "sheet 3 -1 5 2 = -3 | donkey 0 5 = 0");
        Edge.of(11, "-3 tells why: the ROW stays", x + "ahead 0 0 | sheet 3 3 5 2 = -3 | rows 0 5");
    }

    private static void carrot() {
        String paced = ONE + " | rule '2+c' | ";
        Edge.of(12, "its number: 0 ..", ONE + " | carrot 0 0 9 1 = 0 | carrot 0 0 9 1 = 1 | eat",
            "carrot 0 0 9 -1 = 1 | count 2 = 2");
        Edge.of(12, "-2: 10 are there", ONE + " | 9x carrot 0 5 5 1 | carrot 0 5 5 1 = 9 | carrot 0 5 5 1 ~ -2",
            "eat = 9 | carrot 0 5 5 1 = 9");
        Edge.of(12, "NONE is asked ahead of -2", ONE + " | 10x carrot 0 5 5 1 | carrot 1 5 5 1 ~ -1",
            "carrot 0 5 4 1 ~ -1 | carrot 0 5 5 0 ~ -1 | carrot 0 -1 5 1 ~ -1", "carrot 0 5 10000 1 ~ -1");
        Edge.of(12, "from a MINUTE (0 ..)", paced + "carrot 0 -1 5 1 ~ -1 | carrot 0 -2147483648 5 1 ~ -1",
            "carrot 0 0 0 1 = 0 | donkey 0 6 = 3");
        Edge.of(12, "to another one (.. 9999)", ONE + " | carrot 0 0 10000 1 ~ -1 | carrot 0 10000 10000 1 ~ -1",
            "carrot 0 0 2147483647 1 ~ -1 | carrot 0 9999 9999 1 = 0", "carrot 0 0 9999 1 = 1");
        Edge.of(12, "the second not less", ONE + " | carrot 0 5 4 1 ~ -1 | carrot 0 1 0 1 ~ -1",
            "carrot 0 2147483647 -2147483648 1 ~ -1 | carrot 0 5 5 1 = 0 | carrot 0 5 6 1 = 1");
        Edge.of(12, "hurrying (1) or holding (-1)", ONE + " | carrot 0 0 9 0 ~ -1 | carrot 0 0 9 2 ~ -1",
            "carrot 0 0 9 -2 ~ -1 | carrot 0 0 9 -2147483648 ~ -1", "rule '2+c' | carrot 0 0 9 1 = 0",
            "donkey 0 6 = 3 | eat | carrot 0 0 9 -1 = 0 | donkey 0 6 = 1");
        Edge.of(12, "NONE: of no such DONKEY", TWO + " | carrot 2 0 9 1 ~ -1 | carrot -1 0 9 1 ~ -1",
            "carrot 2147483647 0 9 1 ~ -1 | carrot 1 0 9 1 = 0");
        Edge.of(12, "NONE: no DONKEYS", "carrot 0 0 9 1 ~ -1");
        Edge.of(12, "both counted: the first MINUTE", paced + "carrot 0 2 3 1 | minute | donkey 0 6 = 2 | minute",
            "donkey 0 6 = 3");
        Edge.of(12, "both counted: the second MINUTE", paced + "carrot 0 2 3 1 | minutes 3 | donkey 0 6 = 3 | minute",
            "donkey 0 6 = 2");
        Edge.of(12, "a MINUTE that is gone", paced + "minutes 9 | carrot 0 2 3 1 = 0 | donkey 0 6 = 2",
            "carrot 0 2 9 1 = 1 | donkey 0 6 = 3");
        Edge.of(12, "of a DONKEY alone", TWO + " | rule '2+c' | carrot 1 0 9 1 | donkey 0 6 = 2 | donkey 1 6 = 3");
    }

    private static void eat() {
        Edge.of(13, "Refused: none", "eat ~ -1 | " + ONE + " | eat ~ -1 | carrot 0 0 9 1 | eat = 0 | eat ~ -1");
        Edge.of(13, "how many are left", ONE + " | 10x carrot 0 0 9 1 | eat = 9 | eat = 8 | 7x eat | count 2 = 1",
            "eat = 0");
        Edge.of(13, "The latest CARROT", TWO + " | rule '2+c' | carrot 0 0 9 1 | carrot 1 0 9 1 | eat = 1",
            "donkey 0 6 = 3 | donkey 1 6 = 2");
        Edge.of(13, "a CARROT that is over is eaten, too", ONE + " | carrot 0 0 0 1 | minutes 9 | count 2 = 1",
            "eat = 0");
    }
}
