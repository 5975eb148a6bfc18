import java.util.Arrays;

/** Promises 44 to 49: two clocks, eggs, noon. */
final class ClockTest {
    private static final int MIN = Integer.MIN_VALUE;
    private static final int MAX = Integer.MAX_VALUE;

    private ClockTest() {
    }

    static void run() {
        apart();
        together();
        join();
        shows();
        egg();
        plant();
    }

    private static DonkeysHour two() {
        return Check.with("5:0000;5:00000", "");
    }

    private static void apart() {
        Check.promise(44);
        DonkeysHour x = two();
        Check.is("now", x.apart(0, 1, 0), 0);
        Check.is("one", x.apart(0, 1, 4), 1);
        Check.is("the other way", x.apart(1, 0, 4), -1);
        Check.is("none", x.apart(0, 1, 5), 0);
        Check.is("600", x.apart(0, 1, 600), 30);
        x.minutes(80);
        Check.is("in all, now", x.apart(0, 1, 0), 4);
        Check.is("in all, then", x.apart(1, 0, 20), -5);
        int[][] wrong = {{-1, 0, 5}, {0, 2, 5}, {0, 0, 5}, {1, 1, 5}, {0, 1, -1}, {0, 1, 601}, {MAX, 0, 5}, {0, MIN, 5},
            {0, 1, MAX}};
        for (int[] a : wrong) {
            Check.missing("apart " + Arrays.toString(a), () -> x.apart(a[0], a[1], a[2]));
        }
    }

    private static void together() {
        Check.promise(45);
        DonkeysHour x = two();
        Check.is("each 20 minutes", x.together(0, 1), 20);
        Check.is("the other way", x.together(1, 0), 20);
        x.minutes(19);
        Check.is("in the next minute", x.together(0, 1), 1);
        x.minutes(1);
        Check.is("not a stroke that was", x.together(0, 1), 20);
        int[][] wrong = {{-1, 0}, {0, 2}, {0, 0}, {1, 1}, {MAX, 0}, {0, MIN}};
        for (int[] a : wrong) {
            Check.is("together " + Arrays.toString(a), x.together(a[0], a[1]), -1);
        }
        DonkeysHour y = Check.with("5:0000;5:0000", "");
        y.set(0, 1, 1);
        Check.is("never", y.together(0, 1), -2);
        y.carrot(1, 590, 590, 1);
        Check.rule(y, "1+c");
        Check.is("in minute 590", y.together(0, 1), 591);
        y.eat();
        y.carrot(1, 598, 598, 1);
        Check.is("in minute 598", y.together(0, 1), 599);
        Check.rule(y, "m=599");
        y.set(0, 1, 3);
        y.set(1, 1, 3);
        Check.is("in the 600th", y.together(0, 1), 600);
        Check.rule(y, "m=600");
        Check.is("in the 601st", y.together(0, 1), -2);
    }

    private static void join() {
        Check.promise(46);
        DonkeysHour x = two();
        // Behind minutes 0, 1, 2, 4, 5, 6, 9, 10, 14 (of 20) both show the same; else 0 is one ahead.
        Check.is("20 minutes", x.join(0, 1, 20), 9);
        Check.row("20 minutes", x, 1, 11);
        Check.is("the other way", x.join(1, 0, 20), 9);
        Check.row("the other way", x, 11, 11);
        Check.is("three minutes", x.join(0, 1, 3), 3);
        Check.row("no shift", x, 0, 3);
        Check.is("18 minutes", x.join(0, 1, 18), 9);
        Check.row("of equal ones the least", x, 0, 9);
        x.minutes(4);
        Check.is("behind the minute", x.join(0, 1, 1), 1);
        x.minutes(596);
        // 150 and 120 strokes: hours 6 and 0.
        Check.is("in all", x.join(0, 1, 3), 0);
        Check.row("in all", x, 6, 3);
        int[][] wrong = {{-1, 0, 5}, {0, 2, 5}, {0, 0, 5}, {1, 1, 5}, {0, 1, 0}, {0, 1, 601}, {MAX, 0, 5}, {0, MIN, 5},
            {0, 1, MAX}};
        for (int[] a : wrong) {
            Check.is("join " + Arrays.toString(a), x.join(a[0], a[1], a[2]), -1);
        }
        Check.row("the row stays", x, 6, 3);
    }

    private static void shows() {
        Check.promise(47);
        DonkeysHour x = two();
        Check.is("minute 4", x.shows(0, 1, 1), 1);
        Check.is("minute 19, both strike", x.shows(0, 1, 4), 5);
        Check.is("the other way", x.shows(1, 0, 5), 4);
        Check.is("60 strokes", x.shows(0, 1, 60), 75 % 12);
        x.minutes(8);
        Check.is("hours of before count", x.shows(0, 1, 1), 2);
        Check.rule(x, "i=0");
        Check.is("the other one stands", x.shows(0, 1, 1), -2);
        Check.is("one stands", x.shows(1, 0, 12), 1);
        Check.rule(x, "m/12*12=m");
        Check.is("12 of 48 minutes", x.shows(1, 0, 12), (1 + (3 + 49) / 5) % 12);
        Check.is("13 of 48 minutes", x.shows(1, 0, 13), -2);
        int[][] wrong = {{-1, 0, 5}, {0, 2, 5}, {0, 0, 5}, {1, 1, 5}, {0, 1, 0}, {0, 1, 61}, {MAX, 0, 5}, {0, MIN, 5},
            {0, 1, MAX}};
        for (int[] a : wrong) {
            Check.is("shows " + Arrays.toString(a), x.shows(a[0], a[1], a[2]), -1);
        }
    }

    private static void egg() {
        Check.promise(48);
        DonkeysHour x = two();
        Check.is("8 minutes", x.egg(0, 2, 9), 8);
        Check.row("near 9", x, 2, 8);
        Check.is("48 minutes", x.egg(0, 12, 10), 48);
        Check.row("of as near ones the fewest", x, 2, 8);
        x.egg(0, 1, 11);
        Check.row("near 11", x, 3, 12);
        x.egg(0, 1, 1);
        Check.row("near 1", x, 1, 4);
        x.egg(0, 1, 600);
        Check.row("near 600", x, 12, 48);
        int[][] wrong = {{-1, 1, 5}, {2, 1, 5}, {0, 0, 5}, {0, 13, 5}, {0, 1, 0}, {0, 1, 601}, {MAX, 1, 5}, {0, MIN, 5},
            {0, 1, MAX}};
        for (int[] a : wrong) {
            Check.is("egg " + Arrays.toString(a), x.egg(a[0], a[1], a[2]), -1);
        }
        Check.row("the row stays", x, 12, 48);
        Check.rule(x, "(m<12)+(m/50*50=m)*(m>0)");
        // Strokes in minutes 3, 7, 11, then in 200, 400; the next one would come in minute 600.
        Check.is("the fifth", x.egg(0, 4, 500), 397);
        Check.row("the nearest is of those that come", x, 4, 397);
        Check.is("the sixth does not come", x.egg(0, 5, 500), -2);
        x.egg(0, 1, 102);
        Check.row("near 102", x, 2, 8);
        x.egg(0, 1, 103);
        Check.row("near 103", x, 3, 197);
        Check.rule(x, "0");
        Check.is("none comes", x.egg(0, 1, 1), -2);
    }

    private static void plant() {
        Check.promise(49);
        DonkeysHour x = two();
        Check.is("of equal ones the first", x.plant(0, 3, 1), 0);
        Check.row("of equal ones the first", x, 4);
        Check.rule(x, "2");
        // A thistle on place 1 or 3 costs it a step; the first of the two is better by one round.
        Check.is("place 1", x.plant(0, 3, 1), 1);
        Check.row("place 1", x, 3);
        Check.is("the second stroke", x.plant(0, 1, 2), 1);
        Check.row("the second stroke", x, 5);
        Check.is("no thistle is there", x.count(5), 0);
        Check.rule(x, "h");
        x.set(0, 0, 1);
        Check.is("not hungry any more", x.plant(0, 1, 1), 1);
        Check.row("not within 600", x, -1);
        x.set(1, 0, 3);
        // Those on place 0 take 2 of its hunger at each stroke, which gives it 1.
        Check.is("nine make it not hungry", x.plant(1, 9, 60), 0);
        Check.row("nine make it not hungry", x, -1);
        int[][] wrong = {{-1, 1, 5}, {2, 1, 5}, {0, 0, 5}, {0, 10, 5}, {0, 1, 0}, {0, 1, 61}, {MAX, 1, 5}, {0, MIN, 5},
            {0, 1, MAX}};
        for (int[] a : wrong) {
            Check.is("plant " + Arrays.toString(a), x.plant(a[0], a[1], a[2]), -1);
        }
        Check.row("the row stays", x, -1);
        DonkeysHour y = Check.with("9:0900;9:0000", "3");
        // With 18 on place 1 the 20th stroke would come after 39 minutes; with 9 after 33, as with 9 on 0 or 3 besides.
        Check.is("9 at most", y.plant(0, 9, 20), 2);
        Check.row("9 at most", y, 34);
        Check.is("9 where none were", y.plant(1, 9, 20), 0);
        Check.row("9 where none were", y, 33);
    }
}
