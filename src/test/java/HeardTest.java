import java.util.Arrays;

/** Promises 38 to 43: what was heard, and how it can have been. */
final class HeardTest {
    private static final int MIN = Integer.MIN_VALUE;
    private static final int MAX = Integer.MAX_VALUE;
    private static final int ALL = 1023;

    private HeardTest() {
    }

    static void run() {
        heard();
        forget();
        hungers();
        ways();
        swarms();
        span();
    }

    private static void heard() {
        Check.promise(38);
        DonkeysHour x = Check.with("5:0000;5:0000", "");
        int[][] wrong = {{-1, 5, 5}, {2, 5, 5}, {0, -1, 5}, {0, 61, 5}, {0, 5, 0}, {0, 5, 601}, {MAX, 5, 5}, {0, MIN, 5},
            {0, 5, MAX}};
        for (int[] a : wrong) {
            Check.is("heard " + Arrays.toString(a), x.heard(a[0], a[1], a[2]), -1);
        }
        Check.is("nothing was heard", x.count(7), 0);
        Check.is("first", x.heard(0, 60, 600), 1);
        Check.is("no way", x.ways(0), 0);
        x.forget();
        for (int i = 1; i <= 8; i++) {
            Check.is("heard", x.heard(i % 2, i % 2, 4 + i % 2), i);
        }
        Check.is("more than 8", x.heard(0, 0, 1), -1);
        Check.is("eight", x.count(7), 8);
        Check.is("it is asked from now on", x.hungers(1), ALL);
        x.minutes(3);
        Check.is("and is not so any more", x.hungers(1), 0);
    }

    private static void forget() {
        Check.promise(39);
        DonkeysHour x = Check.with("5:0000", "");
        Check.is("nothing", x.forget(), 0);
        x.heard(0, 9, 1);
        x.heard(0, 9, 1);
        Check.is("it can't be", x.ways(0), 0);
        Check.is("two", x.forget(), 2);
        Check.is("nothing any more", x.count(7), 0);
        Check.is("all can be", x.ways(0), 40);
        Check.is("nothing", x.forget(), 0);
        Check.is("counted anew", x.heard(0, 9, 1), 1);
    }

    private static void hungers() {
        Check.promise(40);
        DonkeysHour x = Check.with("5:0000;2:00000", "h/5+1");
        Check.is("nothing was heard", x.hungers(1), ALL);
        Check.row("nothing was heard", x, 31);
        x.heard(0, 1, 2);
        Check.is("who steps twice", x.hungers(0), ALL - 31);
        Check.row("each place", x, 15);
        Check.is("of another one", x.hungers(1), ALL);
        Check.row("of another one", x, 31);
        x.heard(0, 1, 1);
        Check.is("not from place 0 in a minute", x.hungers(0), 0);
        Check.row("from 2 and 3", x, 12);
        x.heard(1, 0, 4);
        Check.is("who steps once", x.hungers(1), 31);
        Check.row("at place 0", x, 1);
        x.heard(1, 1, 5);
        Check.is("all that was heard", x.hungers(1), 31);
        x.heard(1, 2, 5);
        Check.is("both can't be", x.hungers(1), 0);
        Check.row("both can't be", x, 0);
        for (int wrong : new int[] {-1, 2, MIN, MAX}) {
            Check.is("donkey " + wrong, x.hungers(wrong), -1);
        }
        Check.row("the row stays", x, 0);
        Check.is("hunger stays", x.donkey(0, 0), 5);
        Check.is("place stays", x.donkey(0, 1), 0);
    }

    private static void ways() {
        Check.promise(41);
        DonkeysHour x = Check.with("5:0000;2:00000", "h/5+1");
        Check.is("all", x.ways(1), 50);
        Check.row("all", x, 0, 0);
        x.heard(0, 1, 1);
        // Hungers 0 .. 4 from place 3, 5 .. 9 from places 2 and 3.
        Check.is("five and ten", x.ways(0), 15);
        Check.row("the first", x, 0, 3);
        x.heard(0, 2, 3);
        Check.is("who steps twice from the first stroke on", x.ways(0), 10 + 1);
        Check.row("hunger 4 becomes 5", x, 4, 3);
        Check.is("of another one", x.ways(1), 50);
        x.heard(0, 1, 600);
        Check.is("none", x.ways(0), 0);
        Check.row("none", x);
        x.ahead(0, 0);
        for (int wrong : new int[] {-1, 2, MIN, MAX}) {
            Check.is("donkey " + wrong, x.ways(wrong), -1);
        }
        Check.row("the row stays", x, 0, 5);
    }

    private static void swarms() {
        Check.promise(42);
        DonkeysHour x = new DonkeysHour();
        Check.is("no donkeys", x.swarms(), ALL);
        Check.stable(x, "5:0000;2:00000");
        Check.rule(x, "f/2+i");
        Check.flies(x, "02");
        Check.is("nothing was heard", x.swarms(), ALL);
        x.heard(0, 0, 600);
        Check.is("0 stands", x.swarms(), 3);
        x.forget();
        x.heard(0, 1, 2);
        // Pace 2 strikes once, 3 once, 4 twice.
        Check.is("0 strikes once", x.swarms(), 16 + 32 + 64 + 128);
        x.heard(1, 1, 2);
        Check.is("1 strikes once, too", x.swarms(), 16 + 32 + 64 + 128);
        x.heard(1, 0, 1);
        Check.is("1 not at once", x.swarms(), 16 + 32 + 64 + 128);
        x.heard(1, 2, 3);
        Check.is("1 twice in 3 minutes", x.swarms(), 64 + 128);
        Check.is("flies stay", x.donkey(1, 6), 1);
        x.minute();
        Check.is("flies stay", x.donkey(1, 6), 2);
        x.heard(0, 60, 1);
        Check.is("it can't be", x.swarms(), 0);
    }

    private static void span() {
        Check.promise(43);
        DonkeysHour x = Check.with("5:0000;2:00000", "h/5+1");
        Check.is("from place 3", x.span(0, 1), 1);
        Check.row("from place 0, once a minute", x, 4, 40);
        x.heard(0, 0, 1);
        // Not from place 3, nor 2 with two steps a minute.
        Check.is("in the second minute", x.span(0, 1), 2);
        Check.row("25 ways", x, 4, 25);
        Check.is("the 60th", x.span(0, 60), 120);
        x.heard(0, 60, 1);
        Check.is("in none", x.span(0, 1), -2);
        x.forget();
        x.when(0, 1);
        Check.rule(x, "h>4");
        Check.is("those that come", x.span(1, 2), 6);
        Check.row("those that come", x, 10, 25);
        Check.is("the 60th of 5 places", x.span(1, 60), 296);
        Check.rule(x, "2-h/5");
        // Hungers 0 .. 3 strike twice in 3 or 4 minutes, 4 slows down behind the first stroke.
        Check.is("neither first nor last", x.span(0, 2), 3);
        Check.row("neither first nor last", x, 8, 40);
        Check.rule(x, "(h<1)*(p=0)*4+(m>5)");
        // Hunger 0 on place 0 strikes at once; all others step from minute 6 on.
        Check.is("the first way", x.span(0, 1), 1);
        Check.row("the first way", x, 10, 40);
        Check.rule(x, "2-h/5");
        x.span(1, 60);
        Check.rule(x, "0");
        Check.is("none comes", x.span(0, 1), -2);
        int[][] wrong = {{-1, 5}, {2, 5}, {0, 0}, {0, 61}, {MAX, 5}, {0, MIN}, {0, MAX}};
        for (int[] a : wrong) {
            Check.is("span " + Arrays.toString(a), x.span(a[0], a[1]), -1);
        }
        Check.row("the row stays", x, 300, 50);
    }
}
