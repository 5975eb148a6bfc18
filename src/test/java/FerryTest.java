import java.util.Arrays;

/** Promises 32 to 34: FERRIES. */
final class FerryTest {
    private static final int MIN = Integer.MIN_VALUE;
    private static final int MAX = Integer.MAX_VALUE;

    private FerryTest() {
    }

    static void run() {
        leave();
        sure();
        missed();
    }

    private static void leave() {
        Check.promise(32);
        DonkeysHour x = Check.with("5:0000", "");
        // Strokes in minutes 3, 7, 11, ..: there from minute 4 + w, 8 + w, ..
        Check.is("on stroke 2", x.leave(0, 10, 2), 2);
        Check.row("on stroke 2", x, 0);
        Check.is("on stroke 1", x.leave(0, 9, 2), 1);
        Check.row("on stroke 1", x, 3);
        Check.is("now", x.leave(0, 5, 2), 0);
        Check.row("now", x, 3);
        Check.is("just now", x.leave(0, 2, 2), 0);
        Check.row("just now", x, 0);
        Check.is("not even now", x.leave(0, 1, 2), -2);
        Check.row("the row stays", x, 0);
        Check.is("no way", x.leave(0, 600, 0), 150);
        Check.row("no way", x, 0);
        Check.is("a way of 99", x.leave(0, 600, 99), 125);
        Check.row("a way of 99", x, 1);
        int[][] wrong = {{-1, 5, 5}, {1, 5, 5}, {0, 0, 0}, {0, 601, 5}, {0, 5, -1}, {0, 5, 100}, {MAX, 5, 5}, {0, MIN, 5},
            {0, 5, MAX}, {0, 1, 100}};
        for (int[] a : wrong) {
            Check.is("leave " + Arrays.toString(a), x.leave(a[0], a[1], a[2]), -1);
        }
        x.minutes(2);
        Check.is("counted from now", x.leave(0, 8, 2), 2);
        Check.rule(x, "0");
        Check.is("no stroke comes", x.leave(0, 600, 2), 0);
        Check.row("no stroke comes", x, 598);
    }

    private static void sure() {
        Check.promise(33);
        DonkeysHour x = Check.with("5:0000", "h/5+1");
        // Hunger 0 .. 4 steps once, and hurries after strokes; 5 .. 8 steps twice; 9 twice.
        Check.is("all ten", x.sure(0, 4, 0, 10), 1);
        Check.row("all ten", x, 10);
        Check.is("five are there twice", x.sure(0, 4, 0, 5), 2);
        Check.row("five are there twice", x, 5);
        Check.is("six are not", x.sure(0, 4, 0, 6), 1);
        Check.row("six are not", x, 10);
        Check.is("one of them", x.sure(0, 4, 0, 1), 2);
        Check.row("one of them", x, 5);
        Check.is("now", x.sure(0, 2, 1, 10), 0);
        Check.row("now", x, 10);
        Check.is("on the first", x.sure(0, 3, 1, 5), 1);
        Check.row("on the first", x, 5);
        Check.is("not even now", x.sure(0, 1, 2, 1), -2);
        Check.row("the row stays", x, 5);
        Check.is("just now", x.sure(0, 2, 2, 10), 0);
        Check.row("just now", x, 10);
        for (int hunger = 0; hunger < 10; hunger++) {
            Check.rule(x, "(h=" + hunger + ")*3+1");
            Check.is("hunger " + hunger + " alone", x.sure(0, 1, 0, 1), 1);
            Check.row("hunger " + hunger + " alone", x, 1);
        }
        Check.rule(x, "h/5+1");
        int[][] wrong = {{-1, 5, 5, 5}, {1, 5, 5, 5}, {0, 0, 0, 5}, {0, 601, 5, 5}, {0, 5, -1, 5}, {0, 5, 100, 5},
            {0, 5, 5, 0}, {0, 5, 5, 11}, {0, 1, 2, 0}, {MAX, 5, 5, 5}, {0, MIN, 5, 5}, {0, 5, MAX, 5}, {0, 5, 5, MAX}};
        for (int[] a : wrong) {
            Check.is("sure " + Arrays.toString(a), x.sure(a[0], a[1], a[2], a[3]), -1);
        }
        Check.is("hunger stays", x.donkey(0, 0), 5);
        Check.rule(x, "h");
        // Hunger 1 steps once, 2 and 3 come round twice as fast, more still faster; 0 never.
        Check.is("nine of ten", x.sure(0, 4, 0, 9), 1);
        Check.row("nine of ten", x, 9);
        Check.is("not ten", x.sure(0, 4, 0, 10), 0);
        Check.row("not ten", x, 10);
        Check.is("six of ten", x.sure(0, 4, 0, 6), 4);
        Check.row("six of ten", x, 6);
    }

    private static void missed() {
        Check.promise(34);
        DonkeysHour x = Check.with("5:0000", "");
        Check.is("each is taken", x.missed(0, 10, 1, 0), 0);
        Check.row("each is taken", x, 0);
        Check.is("50 strokes of 12 take 12", x.missed(0, 10, 12, 0), 48);
        Check.row("50 strokes of 12 take 12", x, 0);
        Check.is("some come too late", x.missed(0, 120, 1, 99), 0);
        Check.row("some come too late", x, 25);
        Check.is("ferries each minute", x.missed(0, 1, 1, 0), 450);
        Check.row("ferries each minute", x, 0);
        Check.is("ferries each minute, a way of 10", x.missed(0, 1, 1, 10), 600 - 147);
        Check.row("ferries each minute, a way of 10", x, 3);
        Check.is("ferries each 7 minutes", x.missed(0, 7, 2, 0), 85 - 75 + 1);
        Check.row("the last ferry goes in minute 595", x, 1);
        Check.is("a minute too late for the next one", x.missed(0, 4, 1, 1), 1);
        Check.row("a minute too late for the last one", x, 1);
        int[][] wrong = {{-1, 5, 5, 5}, {1, 5, 5, 5}, {0, 0, 5, 5}, {0, 121, 5, 5}, {0, 5, 0, 5}, {0, 5, 13, 5},
            {0, 5, 5, -1}, {0, 5, 5, 100}, {MAX, 5, 5, 5}, {0, MIN, 5, 5}, {0, 5, MAX, 5}, {0, 5, 5, MIN}, {0, -5, 5, 5}};
        for (int[] a : wrong) {
            Check.is("missed " + Arrays.toString(a), x.missed(a[0], a[1], a[2], a[3]), -1);
        }
        Check.row("the row stays", x, 1);
        x.minutes(1);
        Check.is("counted from now", x.missed(0, 3, 1, 0), 200 - 150);
        Check.row("counted from now", x, 0);
        Check.rule(x, "0");
        Check.is("nobody leaves", x.missed(0, 120, 1, 0), 5);
        Check.row("nobody leaves", x, 0);
    }
}
