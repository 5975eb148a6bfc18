/** Promises 7 to 13: DONKEYS, THISTLES, a sheet, CARROTS. */
final class StableTest {
    private static final int MIN = Integer.MIN_VALUE;
    private static final int MAX = Integer.MAX_VALUE;

    private StableTest() {
    }

    static void run() {
        donkey();
        thistles();
        sow();
        set();
        sheet();
        sheetRefused();
        carrot();
        eat();
    }

    private static void donkey() {
        Check.promise(7);
        DonkeysHour x = Check.with("7:01020;3:000000", "2-i");
        x.minutes(1);
        // Donkey 0 steps onto place 1 and eats there; donkey 1 steps once.
        long[] first = {5, 1, 0, 0, 5, 2, 2};
        long[] second = {3, 1, 0, 0, 6, 0, 1};
        for (int what = 0; what < 7; what++) {
            Check.is("donkey 0, " + what, x.donkey(0, what), first[what]);
            Check.is("donkey 1, " + what, x.donkey(1, what), second[what]);
        }
        x.minutes(6 * 13 - 1);
        Check.is("strokes", x.donkey(1, 2), 13);
        Check.is("the hour", x.donkey(1, 3), 1);
        Check.is("hunger is 9 at most", x.donkey(1, 0), 9);
        for (int wrong : new int[] {-1, 2, 3, MIN, MAX}) {
            Check.missing("donkey " + wrong, () -> x.donkey(wrong, 0));
        }
        for (int wrong : new int[] {-1, 7, MIN, MAX}) {
            Check.missing("what " + wrong, () -> x.donkey(0, wrong));
        }
    }

    private static void thistles() {
        Check.promise(8);
        DonkeysHour x = Check.with("7:01029;3:000004", "");
        Check.is("place 0", x.thistles(0, 0), 0);
        Check.is("place 4", x.thistles(0, 4), 9);
        Check.is("place 5 of 6", x.thistles(1, 5), 4);
        for (int wrong : new int[] {-1, 5, 12, MIN, MAX}) {
            Check.is("place " + wrong, x.thistles(0, wrong), -1);
        }
        for (int wrong : new int[] {-1, 2, 3, MIN, MAX}) {
            Check.is("donkey " + wrong, x.thistles(wrong, 0), -1);
        }
        x.minute();
        Check.is("eaten", x.thistles(0, 1), 0);
    }

    private static void sow() {
        Check.promise(9);
        DonkeysHour x = Check.with("7:01029", "");
        Check.is("were 2", x.sow(0, 3, 9), 2);
        Check.is("were 9", x.sow(0, 3, 0), 9);
        Check.is("are 0", x.thistles(0, 3), 0);
        Check.is("of the last place", x.sow(0, 4, 1), 9);
        int[][] wrong = {{-1, 0, 1}, {1, 0, 1}, {0, -1, 1}, {0, 5, 1}, {0, 0, -1}, {0, 0, 10}, {0, MAX, 1}, {MIN, 0, 1}};
        for (int[] a : wrong) {
            Check.is("sow " + a[0] + " " + a[1] + " " + a[2], x.sow(a[0], a[1], a[2]), -1);
        }
        Check.is("nothing else changed", x.count(5), 2);
        Check.is("place 0", x.thistles(0, 0), 0);
    }

    private static void set() {
        Check.promise(10);
        DonkeysHour x = Check.with("7:01029", "");
        Check.is("hunger was", x.set(0, 0, 9), 7);
        Check.is("hunger", x.donkey(0, 0), 9);
        Check.is("hunger 0", x.set(0, 0, 0), 9);
        Check.is("place was", x.set(0, 1, 4), 0);
        Check.is("place", x.donkey(0, 1), 4);
        Check.is("being set there is no eating", x.thistles(0, 4), 9);
        Check.is("place 0", x.set(0, 1, 0), 4);
        Check.is("nor striking", x.donkey(0, 2), 0);
        int[][] wrong = {{-1, 0, 1}, {1, 0, 1}, {0, -1, 1}, {0, 2, 1}, {0, 0, -1}, {0, 0, 10}, {0, 1, 5}, {0, 1, -1},
            {0, 1, MAX}, {0, 0, MIN}, {MAX, 1, 0}};
        for (int[] a : wrong) {
            Check.is("set " + a[0] + " " + a[1] + " " + a[2], x.set(a[0], a[1], a[2]), -1);
        }
        Check.is("hunger stays", x.donkey(0, 0), 0);
        Check.is("place stays", x.donkey(0, 1), 0);
    }

    private static void is(DonkeysHour x, int... thistles) {
        for (int i = 0; i < thistles.length; i++) {
            Check.is("thistles of place " + i, x.thistles(0, i), thistles[i]);
        }
    }

    private static void sheet() {
        Check.promise(11);
        DonkeysHour x = Check.with("7:99999;1:1111", "");
        Check.is("ints", x.sheet(2, 3, 5, 2), 19 + 2);
        is(x, 5, 7, 9, 0, 0);
        Check.is("ints put to 0 .. 9", x.sheet(2, 5, 300, -296), 13);
        is(x, 9, 4, 0, 0, 0);
        Check.is("entries beyond are left aside", x.sheet(2, 12, 1, 0), 5);
        is(x, 1, 1, 1, 1, 1);
        Check.is("no entries", x.sheet(0, 0, 5, 0), 0);
        is(x, 0, 0, 0, 0, 0);
        Check.is("bytes", x.sheet(0, 5, 250, 2), 2);
        is(x, 0, 0, 0, 0, 2);
        Check.is("bytes of 127, 128", x.sheet(0, 2, 127, 1), 9);
        Check.is("shorts of 127, 128", x.sheet(1, 2, 127, 1), 18);
        Check.is("shorts of 32767, 32768", x.sheet(1, 2, 32767, 1), 9);
        Check.is("ints of 32767, 32768", x.sheet(2, 2, 32767, 1), 18);
        Check.is("shorts of 65538", x.sheet(1, 1, 65538, 0), 2);
        Check.is("ints that wrap around", x.sheet(2, 3, MAX, 1), 9);
        is(x, 9, 0, 0, 0, 0);
        Check.is("the other one's stay", x.donkey(1, 5), 4);
        x.sheet(2, 5, 3, 0);
        Check.is("missing", x.sheet(3, 5, 5, 5), -3);
        is(x, 0, 0, 0, 0, 0);
    }

    private static void sheetRefused() {
        Check.promise(11);
        DonkeysHour none = new DonkeysHour();
        Check.is("no donkeys", none.sheet(2, 3, 5, 2), -1);
        Check.is("no donkeys, missing", none.sheet(3, 0, 0, 0), -1);
        Check.is("no donkeys, n below 0", none.sheet(0, -1, 0, 0), -1);
        DonkeysHour x = Check.with("7:12345", "");
        for (int kind : new int[] {-1, 4, MIN, MAX}) {
            Check.is("kind " + kind, x.sheet(kind, 3, 5, 2), -1);
            Check.is("kind " + kind + ", n below 0", x.sheet(kind, -1, 5, 2), -1);
        }
        for (int kind = 0; kind < 4; kind++) {
            Check.is("n 13, kind " + kind, x.sheet(kind, 13, 5, 2), -1);
            Check.is("n far above, kind " + kind, x.sheet(kind, MAX, 5, 2), -1);
        }
        for (int kind = 0; kind < 3; kind++) {
            Check.is("n below 0, kind " + kind, x.sheet(kind, -1, 5, 2), -2);
            Check.is("n far below 0, kind " + kind, x.sheet(kind, MIN, 5, 2), -2);
        }
        is(x, 1, 2, 3, 4, 5);
        Check.is("missing, n below 0", x.sheet(3, -1, 5, 2), -3);
        is(x, 0, 0, 0, 0, 0);
    }

    private static void carrot() {
        Check.promise(12);
        DonkeysHour x = Check.with("7:0000;1:0000", "2+c");
        Check.is("first", x.carrot(0, 1, 2, 1), 0);
        Check.is("second", x.carrot(0, 2, 2, 1), 1);
        Check.is("third", x.carrot(1, 0, 9999, -1), 2);
        long[] paces = {2, 3, 4, 2};
        for (int m = 0; m < 4; m++) {
            Check.is("hurried in minute " + m, x.donkey(0, 6), paces[m]);
            Check.is("held in minute " + m, x.donkey(1, 6), 1);
            x.minute();
        }
        int[][] wrong = {{-1, 0, 1, 1}, {2, 0, 1, 1}, {0, -1, 1, 1}, {0, 2, 1, 1}, {0, 0, 10000, 1}, {0, 0, 1, 0},
            {0, 0, 1, 2}, {0, 0, 1, -2}, {0, MIN, MAX, 1}, {0, MAX, MAX, 1}, {0, 0, 1, MIN}};
        for (int[] a : wrong) {
            Check.is("carrot " + a[0] + " " + a[1] + " " + a[2] + " " + a[3], x.carrot(a[0], a[1], a[2], a[3]), -1);
        }
        Check.is("three", x.count(2), 3);
        for (int i = 3; i < 10; i++) {
            Check.is("carrot " + i, x.carrot(0, 9999, 9999, 1), i);
        }
        Check.is("10 are there", x.carrot(0, 5, 5, 1), -2);
        Check.is("NONE is asked first", x.carrot(2, 5, 5, 1), -1);
        Check.is("ten", x.count(2), 10);
    }

    private static void eat() {
        Check.promise(13);
        DonkeysHour x = Check.with("7:0000", "2+c");
        Check.is("none", x.eat(), -1);
        x.carrot(0, 0, 9, 1);
        x.carrot(0, 0, 9, -1);
        Check.is("both", x.donkey(0, 6), 2);
        Check.is("the latest one", x.eat(), 1);
        Check.is("the other one is left", x.donkey(0, 6), 3);
        Check.is("the first one", x.eat(), 0);
        Check.is("no carrots", x.donkey(0, 6), 2);
        Check.is("none any more", x.eat(), -1);
        Check.is("numbers begin again", x.carrot(0, 0, 0, 1), 0);
    }
}
