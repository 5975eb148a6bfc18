import java.util.Arrays;

/** Promises 35 to 37: CARROTS that are thought of. */
final class CarrotTest {
    private static final int MIN = Integer.MIN_VALUE;
    private static final int MAX = Integer.MAX_VALUE;

    private CarrotTest() {
    }

    static void run() {
        bribe();
        bribeNever();
        rests();
        bid();
    }

    private static void bribe() {
        Check.promise(35);
        DonkeysHour x = Check.with("5:0000;5:0000", "1+c");
        // The next stroke is struck in minute 3, the one behind it in minute 7.
        Check.is("held from behind the stroke", x.bribe(0, 4, -1), 4);
        Check.row("held from behind the stroke", x, 8, 4);
        Check.is("hurried at once", x.bribe(0, 4, 1), 0);
        Check.row("hurried at once", x, 2, 4);
        Check.is("hurried for a minute", x.bribe(0, 1, 1), 3);
        Check.row("hurried for a minute", x, 3, 4);
        Check.is("held for a minute", x.bribe(0, 1, -1), 4);
        Check.row("held for a minute", x, 5, 4);
        Check.is("held for 20", x.bribe(0, 20, -1), 4);
        Check.row("held for 20", x, 24, 4);
        int[][] wrong = {{-1, 5, 1}, {2, 5, 1}, {0, 0, 1}, {0, 21, 1}, {0, 5, 0}, {0, 5, 2}, {0, 5, -2}, {MAX, 5, 1},
            {0, MIN, 1}, {0, 5, MAX}};
        for (int[] a : wrong) {
            Check.is("bribe " + Arrays.toString(a), x.bribe(a[0], a[1], a[2]), -1);
        }
        Check.row("the row stays", x, 24, 4);
        x.minutes(5);
        Check.is("counted from now", x.bribe(0, 4, -1), 3);
        Check.row("counted from now", x, 8, 4);
        for (int i = 0; i < 10; i++) {
            x.carrot(0, i < 3 ? 8 : 900, i < 3 ? 9 : 900, -1);
        }
        Check.is("those that are there stay", x.bribe(0, 4, -1), 5);
        Check.row("those that are there stay", x, 10, 6);
        Check.is("of another one they do not count", x.bribe(1, 4, -1), 3);
        Check.row("of another one they do not count", x, 8, 4);
        Check.is("no carrot came", x.count(2), 10);
    }

    private static void bribeNever() {
        Check.promise(35);
        DonkeysHour x = Check.with("5:0000", "0");
        Check.is("no stroke", x.bribe(0, 4, 1), 0);
        Check.row("no stroke", x, 601, 601);
        Check.rule(x, "m<8");
        Check.is("just ended", x.bribe(0, 1, 1), 0);
        Check.row("just ended", x, 4, 4);
        Check.rule(x, "(m<7)+c");
        Check.is("the last step by a carrot", x.bribe(0, 1, 1), 3);
        Check.row("the last step by a carrot", x, 3, 601);
        Check.rule(x, "(m<4)+4*c*(m=60)");
        Check.is("in minute 60", x.bribe(0, 1, 1), 60);
        Check.row("in minute 60", x, 57, 601);
        Check.rule(x, "(m<4)+4*c*(m=61)");
        Check.is("not in minute 61", x.bribe(0, 1, 1), 0);
        Check.row("not in minute 61", x, 601, 601);
        Check.is("but two minutes", x.bribe(0, 2, 1), 60);
        Check.row("but two minutes", x, 58, 601);
        Check.rule(x, "(m<8)*(1+c)");
        Check.is("never is longer than any", x.bribe(0, 1, -1), 0);
        Check.row("never is longer than any", x, 601, 4);
        Check.rule(x, "(m<4)+(m>597)");
        Check.is("ends behind the 600 minutes", x.bribe(0, 1, -1), 0);
        Check.row("ends behind the 600 minutes", x, 601, 601);
        Check.rule(x, "(m<4)+(m>595)");
        Check.is("ends in the last minute", x.bribe(0, 1, -1), 0);
        Check.row("ends in the last minute", x, 596, 596);
    }

    private static void rests(DonkeysHour x, int m, int turns, long... row) {
        Check.is("rests " + m, x.rests(0, 2, m), turns);
        Check.row("rests " + m, x, row);
    }

    private static void rests() {
        Check.promise(36);
        DonkeysHour x = Check.with("5:0000;5:0000", "1+c");
        rests(x, 0, 0, 0, 0, 0, 4);
        // Hurried in minutes 0 and 1 it strikes in minute 1; held in 2 and 3 the hour lasts 6 minutes.
        rests(x, 1, 1, 0, 2, 0, 6);
        // Held then, it is hurried best in 5 and 6: strokes in minutes 5 and 7.
        rests(x, 2, 2, 0, 2, 5, 2);
        rests(x, 3, 3, 0, 4, 5, 4);
        rests(x, 4, 4, 0, 4, 5, 4);
        rests(x, 5, 5, 1, 4, 5, 4);
        rests(x, 20, 5, 1, 4, 5, 4);
        int[][] wrong = {{-1, 5, 1}, {2, 5, 1}, {0, 0, 1}, {0, 11, 1}, {0, 5, -1}, {0, 5, 21}, {MAX, 5, 1}, {0, MIN, 1},
            {0, 5, MAX}};
        for (int[] a : wrong) {
            Check.is("rests " + Arrays.toString(a), x.rests(a[0], a[1], a[2]), -1);
        }
        Check.row("the row stays", x, 1, 4, 5, 4);
        Check.rule(x, "0");
        rests(x, 9, 2, 1, 0, 0, 601);
        rests(x, 2, 2, 1, 0, 0, 601);
        rests(x, 1, 1, 0, 0, 0, 601);
        Check.rule(x, "1");
        rests(x, 20, 2, 1, 0, 0, 4);
        for (int n = 1; n <= 10; n++) {
            Check.is("carrots of " + n, x.rests(0, n, 20), 2);
        }
        Check.rule(x, "(m<4)+4*(m=30)*(c>0)");
        // Boy 1 hurries it to a stroke in minute 30, till boy 0 holds it there.
        Check.is("in minute 30", x.rests(0, 1, 2), 2);
        Check.row("in minute 30", x, 0, 0, 30, 27);
        Check.is("both in minute 30", x.rests(0, 1, 20), 5);
        Check.row("both in minute 30", x, 1, 30, 30, 601);
        Check.rule(x, "(m<4)+4*(m=31)*(c>0)");
        Check.is("not in minute 31", x.rests(0, 1, 20), 2);
        Check.row("not in minute 31", x, 1, 0, 0, 601);
        Check.rule(x, "2+c");
        // They go round and round: (0, 0), (0, 3), (2, 3), (2, 0), and again.
        Check.is("boy 0 goes back to minute 0", x.rests(0, 4, 5), 5);
        Check.row("boy 0 goes back to minute 0", x, 0, 0, 0, 2);
        Check.is("they never rest", x.rests(0, 4, 20), 20);
        Check.row("they never rest", x, 0, 2, 0, 1);
        Check.rule(x, "(m<4)+4*(m=39)*(c>0)");
        Check.is("ten minutes from minute 30 on", x.rests(0, 10, 2), 2);
        Check.row("ten minutes from minute 30 on", x, 0, 0, 30, 36);
        Check.rule(x, "(m<4)+4*(m=40)*(c>0)");
        Check.is("no eleven", x.rests(0, 10, 2), 2);
        Check.row("no eleven", x, 1, 0, 0, 601);
        x.minutes(100);
        Check.rule(x, "1+c");
        rests(x, 5, 5, 1, 4, 5, 4);
        Check.is("no carrot came", x.count(2), 0);
    }

    private static void bid() {
        Check.promise(37);
        DonkeysHour x = Check.with("5:0000;5:0000", "1+c");
        Check.is("6 or more", x.bid(0, -1, 6), 2);
        Check.is("4 or more", x.bid(0, -1, 4), 0);
        Check.is("5 or more", x.bid(0, -1, 5), 1);
        Check.is("64 or more", x.bid(0, -1, 64), 60);
        Check.is("65 or more", x.bid(0, -1, 65), -2);
        Check.is("4 or fewer", x.bid(0, 1, 4), 0);
        Check.is("3 or fewer", x.bid(0, 1, 3), 1);
        Check.is("2 or fewer", x.bid(0, 1, 2), 2);
        Check.is("1 or fewer", x.bid(0, 1, 1), -2);
        Check.is("600 or fewer", x.bid(0, 1, 600), 0);
        int[][] wrong = {{-1, 1, 5}, {2, 1, 5}, {0, 0, 5}, {0, 2, 5}, {0, -2, 5}, {0, 1, 0}, {0, 1, 601}, {MAX, 1, 5},
            {0, MIN, 5}, {0, 1, MAX}};
        for (int[] a : wrong) {
            Check.is("bid " + Arrays.toString(a), x.bid(a[0], a[1], a[2]), -1);
        }
        x.carrot(0, 0, 1, -1);
        Check.is("carrots that are there stay", x.bid(0, -1, 6), 0);
        Check.is("against them", x.bid(0, 1, 4), 2);
        x.minutes(2);
        Check.is("from now on", x.bid(0, 1, 2), 2);
        Check.rule(x, "c>0");
        Check.is("not within 600 is later", x.bid(0, -1, 600), 0);
        Check.is("but not earlier", x.bid(0, 1, 600), 4);
        Check.rule(x, "0");
        Check.is("never", x.bid(0, 1, 600), -2);
        Check.is("no carrot came", x.count(2), 1);
    }
}
