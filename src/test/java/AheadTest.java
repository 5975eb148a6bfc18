/** Promises 21 to 25: MINUTES to come. */
final class AheadTest {
    private static final int MIN = Integer.MIN_VALUE;
    private static final int MAX = Integer.MAX_VALUE;

    private AheadTest() {
    }

    static void run() {
        ahead();
        when();
        strikes();
        stops();
        eats();
        nothingChanges();
    }

    private static void ahead() {
        Check.promise(21);
        DonkeysHour x = Check.with("5:0100;9:00000", "");
        Check.is("none", x.ahead(0, 0), 0);
        Check.row("none", x, 0, 5);
        Check.is("one", x.ahead(0, 1), 0);
        Check.row("one", x, 1, 3);
        Check.is("nine", x.ahead(0, 9), 2);
        Check.row("nine", x, 1, 5);
        Check.is("600", x.ahead(1, 600), 120);
        Check.row("600", x, 0, 9);
        int[][] wrong = {{-1, 5}, {2, 5}, {0, -1}, {0, 601}, {MAX, 5}, {0, MIN}, {0, MAX}};
        for (int[] a : wrong) {
            Check.is("ahead " + a[0] + " " + a[1], x.ahead(a[0], a[1]), -1);
        }
        Check.row("the row stays", x, 0, 9);
        x.minutes(3);
        Check.is("from now on", x.ahead(0, 1), 1);
        Check.rule(x, "m=3");
        Check.is("the minute goes on", x.ahead(0, 5), 1);
        Check.row("it stands then", x, 0, 4);
    }

    private static void when() {
        Check.promise(22);
        DonkeysHour x = Check.with("5:0000;5:000000000000", "");
        Check.is("first", x.when(0, 1), 4);
        Check.is("60th", x.when(0, 60), 240);
        Check.is("50th of 12 places", x.when(1, 50), 600);
        Check.is("51st of 12 places", x.when(1, 51), -2);
        x.minutes(3);
        Check.is("from now on", x.when(0, 1), 1);
        Check.is("from now on", x.when(0, 2), 5);
        int[][] wrong = {{-1, 5}, {2, 5}, {0, 0}, {0, 61}, {MAX, 5}, {0, MIN}, {0, MAX}};
        for (int[] a : wrong) {
            Check.is("when " + a[0] + " " + a[1], x.when(a[0], a[1]), -1);
        }
        Check.rule(x, "0");
        Check.is("never", x.when(0, 1), -2);
    }

    private static void strikes() {
        Check.promise(23);
        DonkeysHour x = Check.with("5:0000;5:000000000000", "");
        Check.is("hour 1", x.strikes(0, 1), 4);
        Check.row("hour 1", x, 1);
        Check.is("hour 11", x.strikes(0, 11), 44);
        Check.row("hour 11", x, 11);
        Check.is("hour 0 is shown, but struck last", x.strikes(0, 0), 48);
        Check.row("hour 0", x, 12);
        x.minutes(4 * 14 + 3);
        Check.is("hour 3", x.strikes(0, 3), 1);
        Check.row("hour 3", x, 1);
        Check.is("hour 2", x.strikes(0, 2), 45);
        Check.row("hour 2", x, 12);
        Check.is("hour 0", x.strikes(0, 0), 37);
        Check.row("hour 0", x, 10);
        int[][] wrong = {{-1, 5}, {2, 5}, {0, -1}, {0, 12}, {MAX, 5}, {0, MIN}, {0, MAX}};
        for (int[] a : wrong) {
            Check.is("strikes " + a[0] + " " + a[1], x.strikes(a[0], a[1]), -1);
        }
        Check.rule(x, "m<70");
        Check.is("not in these", x.strikes(0, 7), -2);
        Check.row("the row stays", x, 10);
        Check.rule(x, "m/12*12=m");
        Check.is("12 strokes of 48 minutes each", x.strikes(0, 2), 540 - 59 + 48 + 1);
    }

    private static void stops() {
        Check.promise(24);
        DonkeysHour x = Check.with("5:0000;0:0000", "");
        Check.is("it does not", x.stops(0), -2);
        Check.rule(x, "h");
        Check.is("at once", x.stops(1), 0);
        Check.is("not that one", x.stops(0), -2);
        Check.rule(x, "(m<10)+(m=300)");
        Check.is("after its last step", x.stops(0), 301);
        Check.rule(x, "m<599");
        Check.is("in the 600th minute alone", x.stops(0), 599);
        Check.rule(x, "m<600");
        Check.is("not in the 600th", x.stops(0), -2);
        Check.rule(x, "m=599");
        Check.is("a step in the 600th", x.stops(0), -2);
        Check.rule(x, "m=600");
        Check.is("a step behind the 600 minutes", x.stops(0), 0);
        x.minutes(7);
        Check.rule(x, "m<20");
        Check.is("from now on", x.stops(0), 13);
        for (int wrong : new int[] {-1, 2, MIN, MAX}) {
            Check.is("donkey " + wrong, x.stops(wrong), -1);
        }
        Check.stable(x, "3:0090");
        Check.rule(x, "h");
        // Hunger 3, 1 on place 2; 2 behind the stroke, 0 on place 2.
        Check.is("it eats till it is not hungry", x.stops(2), 4);
    }

    private static void eats() {
        Check.promise(25);
        DonkeysHour x = Check.with("5:0203;5:0000", "");
        Check.is("none", x.eats(0, 0), 0);
        Check.row("none", x, -1, 0);
        Check.is("one", x.eats(0, 1), 1);
        Check.row("one", x, 1, 1);
        Check.is("of equal ones the first", x.eats(0, 7), 4);
        Check.row("of equal ones the first", x, 1, 2);
        Check.is("all", x.eats(0, 600), 5);
        Check.row("all", x, 3, 3);
        Check.is("there are none", x.eats(1, 600), 0);
        Check.row("there are none", x, -1, 0);
        int[][] wrong = {{-1, 5}, {2, 5}, {0, -1}, {0, 601}, {MAX, 5}, {0, MIN}, {0, MAX}};
        for (int[] a : wrong) {
            Check.is("eats " + a[0] + " " + a[1], x.eats(a[0], a[1]), -1);
        }
        x.eats(0, 8);
        Check.row("the row of eight", x, 1, 2);
        DonkeysHour y = Check.with("5:2001", "");
        Check.is("on place 0, too", y.eats(0, 600), 3);
        Check.row("on place 0, too", y, 0, 2);
    }

    /** Questions change nothing: each is asked, and all is as it was. */
    private static void nothingChanges() {
        DonkeysHour x = Check.with("5:0203;3:10000", "1+c+h/4");
        Check.flies(x, "12");
        x.carrot(0, 0, 9, 1);
        x.owe(0, 1, 5, 0, 1);
        x.minutes(9);
        x.heard(0, 2, 9);
        long[] before = seen(x);
        x.ahead(0, 50);
        x.when(0, 5);
        x.strikes(0, 5);
        x.stops(0);
        x.eats(0, 50);
        Check.promise(25);
        same(x, before, "ahead .. eats");
        x.due(0, 0, 50);
        x.owes(0, 0, 50);
        x.reading(0, 50);
        x.mildest(50);
        x.leave(0, 50, 3);
        x.sure(0, 50, 3, 4);
        x.missed(0, 50, 3, 4);
        Check.promise(34);
        same(x, before, "due .. missed");
        x.bribe(0, 9, -1);
        x.rests(0, 3, 9);
        x.bid(0, -1, 30);
        Check.promise(37);
        same(x, before, "bribe .. bid");
        x.hungers(0);
        x.ways(0);
        x.swarms();
        x.span(0, 3);
        Check.promise(43);
        same(x, before, "hungers .. span");
        x.apart(0, 1, 50);
        x.together(0, 1);
        x.join(0, 1, 50);
        x.shows(0, 1, 3);
        x.egg(0, 3, 9);
        x.plant(0, 3, 9);
        Check.promise(49);
        same(x, before, "apart .. plant");
    }

    private static long[] seen(DonkeysHour x) {
        long[] all = new long[32];
        int n = 0;
        for (int d = 0; d < 2; d++) {
            for (int what = 0; what < 7; what++) {
                all[n++] = x.donkey(d, what);
            }
            all[n++] = x.struck(d, 1);
            all[n++] = x.struck(d, x.donkey(d, 2));
        }
        for (int what = 0; what < 8; what++) {
            all[n++] = x.count(what);
        }
        all[n++] = x.ahead(0, 77);
        all[n++] = x.ahead(1, 77);
        return all;
    }

    private static void same(DonkeysHour x, long[] before, String what) {
        long[] now = seen(x);
        for (int i = 0; i < now.length; i++) {
            Check.is(what + ", " + i, now[i], before[i]);
        }
    }
}
