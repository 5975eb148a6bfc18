/** Promises 14 to 20: MINUTES that go by, a DAY, what is undone, THE BOOK. */
final class MinutesTest {
    private static final int MIN = Integer.MIN_VALUE;
    private static final int MAX = Integer.MAX_VALUE;

    private MinutesTest() {
    }

    static void run() {
        minute();
        stepping();
        minutes();
        day();
        dayCanNot();
        dayText();
        undo();
        undoOfDay();
        undoTen();
        struck();
        took();
        longest();
    }

    private static void minute() {
        Check.promise(14);
        DonkeysHour x = Check.with("5:0100;5:0000;5:00000", "i<2");
        Check.is("minute 0", x.minute(), 0);
        Check.row("donkey 0 ate, donkey 2 stood", x, 1, 4);
        Check.is("hunger 2 less", x.donkey(0, 0), 3);
        Check.is("one thistle less", x.thistles(0, 1), 0);
        x.minute();
        Check.row("none ate", x, 0, 4);
        x.minute();
        Check.is("both strike", x.minute(), 2);
        Check.is("hunger 1 more", x.donkey(0, 0), 4);
        Check.is("of the other one, too", x.donkey(1, 0), 6);
        Check.is("now", x.count(1), 4);
        Check.rule(x, "0");
        Check.is("all stand", x.minute(), 0);
        Check.row("all stand", x, 0, 7);
        Check.is("now", x.count(1), 5);
        x.sow(0, 1, 1);
        x.sow(2, 1, 1);
        Check.rule(x, "2*(i=0)+3*(i=2)");
        x.minute();
        Check.row("0 and 2 ate, 1 stood", x, 5, 2);
    }

    private static void stepping() {
        Check.promise(14);
        DonkeysHour x = Check.with("9:1000;0:00110;8:1000", "4");
        Check.is("two strike", x.minute(), 2);
        Check.row("all ate", x, 7, 0);
        Check.is("it strikes, 9 at most, then eats", x.donkey(0, 0), 7);
        Check.is("8, strikes, eats", x.donkey(2, 0), 7);
        Check.is("it steps no more", x.donkey(1, 1), 2);
        Check.is("one thistle is left", x.donkey(1, 5), 1);
        Check.is("hunger is 0 at least", x.donkey(1, 0), 0);
        x.minute();
        Check.is("the next thistle stops it", x.donkey(1, 1), 3);
        x.minute();
        Check.is("round and round", x.donkey(1, 1), 2);
        DonkeysHour y = Check.with("1:0200", "4");
        y.minute();
        Check.is("hunger 1 becomes 0", y.donkey(0, 0), 0);
        Check.is("one of two is eaten", y.thistles(0, 1), 1);
        y.minute();
        Check.is("pace 4 round a round of 4, and it eats", y.thistles(0, 1), 0);
        Check.is("it struck on its way", y.donkey(0, 2), 1);
        DonkeysHour z = Check.with("5:0000", "h-5");
        z.set(0, 0, 6);
        z.set(0, 1, 3);
        Check.is("the pace is as ahead of the first step", z.minute(), 1);
        Check.is("one step", z.donkey(0, 1), 0);
    }

    private static void minutes() {
        Check.promise(15);
        DonkeysHour x = Check.with("5:0101;5:00000", "");
        Check.is("none", x.minutes(0), 0);
        Check.row("none", x, 0, 0, 0);
        Check.is("20 minutes", x.minutes(20), 5 + 4);
        Check.row("20 minutes", x, 2, 5, 4);
        Check.is("now", x.count(1), 20);
        for (int wrong : new int[] {-1, 601, MIN, MAX}) {
            Check.is("minutes " + wrong, x.minutes(wrong), -1);
        }
        Check.row("the row stays", x, 2, 5, 4);
        Check.is("now stays", x.count(1), 20);
        Check.is("600", x.minutes(600), 150 + 120);
        Check.row("600", x, 0, 150, 120);
        DonkeysHour none = new DonkeysHour();
        Check.is("no donkeys", none.minutes(3), 0);
        Check.row("no donkeys", none, 0);
    }

    private static void day() {
        Check.promise(16);
        DonkeysHour x = Check.with("5:0000;5:00000", "1+c");
        Check.is("empty", x.day(), 0);
        Check.row("empty", x, 0, 0);
        Check.is("five acts", Check.day(x, "m2;c0+3;s003=4;h1=9;m10"), 5);
        // Donkey 0: place 2, then 2 steps a minute for three minutes, till it eats at place 3.
        Check.row("five acts", x, 0, x.count(4));
        Check.is("hunger 0 becomes another", Check.day(Check.with("0:0000", ""), "h0=5;m1"), 2);
        Check.is("so do no thistles", Check.day(Check.with("0:0000", ""), "s00=5;m1"), 2);
        Check.is("now", x.count(1), 12);
        Check.is("carrots", x.count(2), 1);
        Check.is("hunger of the other one", x.donkey(1, 0), 9);
        Check.is("strokes of the other one", x.donkey(1, 2), 2);
        DonkeysHour y = Check.with("5:0000", "1+c");
        Check.is("hurried from now on for 2 minutes", Check.day(y, "m4;c0+02;m2"), 3);
        Check.row("2 strokes", y, 0, 2);
        Check.is("not longer", y.donkey(0, 6), 1);
        Check.is("held", Check.day(y, "c0-1"), 1);
        Check.is("held now", y.donkey(0, 6), 0);
        y.minute();
        Check.is("held no more", y.donkey(0, 6), 1);
        Check.is("no minutes go by", Check.day(y, "m0;m000"), 2);
        Check.row("no minutes", y, 0, 0);
        Check.is("600 minutes", Check.day(y, "m600"), 1);
        Check.row("600 minutes", y, 0, 150);
        Check.is("99 minutes of a carrot", Check.day(y, "c0-99"), 1);
        y.minutes(98);
        Check.is("the 99th", y.donkey(0, 6), 0);
        y.minute();
        Check.is("the 100th", y.donkey(0, 6), 1);
        DonkeysHour z = Check.with("5:000000000000", "");
        Check.is("a place of two digits", Check.day(z, "s011=7;s007=1;s07=2"), 3);
        Check.is("place 11", z.thistles(0, 11), 7);
        Check.is("place 7", z.thistles(0, 7), 2);
    }

    private static void canNot(DonkeysHour x, String acts, int done, int strokes) {
        Check.is("day " + acts, Check.day(x, acts), done);
        Check.row("day " + acts, x, 1, strokes);
        Check.is("the text after " + acts, x.count(9), 0);
    }

    private static void dayCanNot() {
        Check.promise(16);
        DonkeysHour x = Check.with("5:0000", "");
        canNot(x, "m601", 0, 0);
        canNot(x, "m999;m1", 0, 0);
        canNot(x, "c0+0", 0, 0);
        canNot(x, "c0-00", 0, 0);
        canNot(x, "c1+1", 0, 0);
        canNot(x, "c9+1", 0, 0);
        canNot(x, "s04=1", 0, 0);
        canNot(x, "s099=1", 0, 0);
        canNot(x, "s10=1", 0, 0);
        canNot(x, "h1=1", 0, 0);
        Check.is("nothing went by", x.count(1), 0);
        canNot(x, "m4;h0=1;h1=1;m4", 2, 1);
        Check.is("what was done stays", x.count(1), 4);
        Check.is("hunger, too", x.donkey(0, 0), 1);
        for (int i = 0; i < 9; i++) {
            x.carrot(0, 5, 5, 1);
        }
        canNot(x, "c0+1;c0+1;m1", 1, 0);
        Check.is("ten carrots", x.count(2), 10);
    }

    private static void dayText() {
        Check.promise(16);
        DonkeysHour x = Check.with("5:0000", "");
        x.ahead(0, 0);
        String[] acts = {"x", ";", "m", "m;", "mx", "m1;", "m1;;m1", "m1234", "m12 ", "c", "cx", "c0", "c0=", "c0+", "c0+x",
            "c0+123", "c0-1-", "s", "sx", "s0", "s0x", "s00", "s00+", "s0000=1", "s00=", "s00=x", "s00=12", "h", "hx", "h0",
            "h0+", "h0=", "h0=x", "h0=11", "m4;m", "m4;x", "m4m4", "M4", "h00=1"};
        int[] at = {0, 0, 1, 1, 1, 3, 3, 4, 3, 1, 1, 2, 2, 3, 3,
            5, 4, 1, 1, 2, 2, 3, 3, 4, 4, 4, 5, 1, 1, 2,
            2, 3, 3, 4, 4, 3, 2, 0, 2};
        for (int i = 0; i < acts.length; i++) {
            Check.is("day " + acts[i], Check.day(x, acts[i]), -1 - at[i]);
            Check.is("the text after " + acts[i], x.count(9), 0);
        }
        Check.is("nothing is done", x.count(1), 0);
        Check.row("the row stays", x, 0, 5);
        StringBuilder s = new StringBuilder("m1");
        for (int i = 1; i < 20; i++) {
            s.append(";m1");
        }
        Check.is("59 signs", Check.day(x, s.toString()), 20);
        Check.is("60 signs", Check.day(x, s + "1"), 20);
        Check.is("60 signs, not ended", Check.day(x, s + ";"), -61);
        Check.is("61 signs", Check.day(x, s + "11"), -61);
        Check.is("62 signs", Check.day(x, s + ";m1"), -61);
        Check.is("61 signs, wrong ahead of that", Check.day(x, "m1m" + s), -3);
    }

    private static void undo() {
        Check.promise(17);
        DonkeysHour x = Check.with("5:0300;7:00000", "1+c");
        Check.is("nothing", x.undo(), -1);
        x.minutes(0);
        Check.is("minutes(0) is nothing", x.undo(), -1);
        x.minute();
        x.minutes(30);
        x.sow(1, 0, 9);
        x.set(1, 0, 0);
        x.set(1, 1, 3);
        x.carrot(0, 0, 9, 1);
        Check.is("two can be undone", x.count(6), 2);
        Check.is("minutes", x.undo(), 1);
        Check.is("now", x.count(1), 1);
        Check.is("thistles", x.thistles(0, 1), 2);
        Check.is("thistles sown since", x.thistles(1, 0), 0);
        Check.is("hunger", x.donkey(0, 0), 3);
        Check.is("hunger set since", x.donkey(1, 0), 7);
        Check.is("place", x.donkey(1, 1), 1);
        Check.is("strokes", x.count(4), 0);
        Check.is("the book", x.struck(0, 1), -2);
        Check.is("carrots stay", x.count(2), 1);
        Check.is("minute", x.undo(), 0);
        Check.is("now", x.count(1), 0);
        Check.is("thistles", x.count(5), 3);
        Check.is("carrots stay", x.count(2), 1);
        Check.is("nothing any more", x.undo(), -1);
        DonkeysHour y = Check.with("5:0000", "");
        y.minutes(400);
        y.minutes(300);
        y.undo();
        Check.is("the book has what it had", y.struck(0, 61), 243);
        Check.is("and not more", y.struck(0, 60), -3);
    }

    private static void undoOfDay() {
        Check.promise(17);
        DonkeysHour x = Check.with("5:0000", "1+c");
        x.day();
        Check.is("an empty day is nothing", x.count(6), 0);
        Check.day(x, "m601;m1");
        Check.is("a day with no act done is nothing", x.count(6), 0);
        Check.day(x, "m");
        Check.is("a day that can't be read is nothing", x.count(6), 0);
        x.carrot(0, 0, 3, 1);
        Check.day(x, "c0+5;s01=4;h0=1;m8;m601");
        Check.is("a day is one", x.count(6), 1);
        x.eat();
        x.eat();
        x.undo();
        Check.is("carrots are as ahead of the day", x.count(2), 1);
        Check.is("pace", x.donkey(0, 6), 2);
        Check.is("thistles", x.thistles(0, 1), 0);
        Check.is("hunger", x.donkey(0, 0), 5);
        Check.is("now", x.count(1), 0);
        Check.day(x, "m0");
        Check.is("an act without minutes is one, too", x.count(6), 1);
        Check.stable(x, "x");
        Check.is("a stable that is refused forgets nothing", x.count(6), 1);
        x.stable();
        Check.is("nor an empty one", x.count(6), 1);
        x.again(0);
        Check.is("nor an again that is refused", x.count(6), 1);
        Check.stable(x, "5:0000");
        Check.is("a stable forgets", x.count(6), 0);
        x.minute();
        x.keep(0);
        x.minute();
        Check.is("two", x.count(6), 2);
        x.again(0);
        Check.is("again forgets", x.undo(), -1);
    }

    private static void undoTen() {
        Check.promise(17);
        DonkeysHour x = Check.with("5:0000", "");
        for (int i = 1; i <= 13; i++) {
            x.minute();
            Check.is("after " + i, x.count(6), Math.min(10, i));
        }
        Check.day(x, "m601");
        Check.is("a day with no act done drives out none", x.count(6), 10);
        for (int i = 9; i >= 0; i--) {
            Check.is("left", x.undo(), i);
            Check.is("now", x.count(1), 3 + i);
        }
        Check.is("no more", x.undo(), -1);
        Check.is("now", x.count(1), 3);
        for (int i = 0; i < 11; i++) {
            x.minute();
        }
        Check.is("again 9", x.undo(), 9);
        Check.is("now", x.count(1), 13);
    }

    private static void struck() {
        Check.promise(18);
        DonkeysHour x = Check.with("5:0000;5:00000", "");
        Check.is("not yet", x.struck(0, 1), -2);
        x.minutes(160);
        Check.is("the first", x.struck(0, 1), 3);
        Check.is("the 40th", x.struck(0, 40), 159);
        Check.is("the 41st", x.struck(0, 41), -2);
        Check.is("of the other one", x.struck(1, 32), 159);
        x.minutes(4);
        Check.is("the first is known no more", x.struck(0, 1), -3);
        Check.is("the second is", x.struck(0, 2), 7);
        Check.is("the 41st is", x.struck(0, 41), 163);
        for (int wrong : new int[] {0, -1, MIN}) {
            Check.is("stroke " + wrong, x.struck(0, wrong), -1);
        }
        for (int wrong : new int[] {-1, 2, MIN, MAX}) {
            Check.is("donkey " + wrong, x.struck(wrong, 1), -1);
        }
        Check.is("far from now", x.struck(0, MAX), -2);
    }

    private static void took() {
        Check.promise(19);
        DonkeysHour x = Check.with("5:0000", "1+c");
        x.carrot(0, 5, 7, -1);
        Check.is("not yet", x.took(0, 1), -2);
        x.minutes(4);
        Check.is("its end not yet", x.took(0, 1), -2);
        x.minutes(160);
        // Strokes in minutes 3, 10, 14, .. 162.
        Check.is("held", x.took(0, 1), 7);
        Check.is("as it is", x.took(0, 2), 4);
        Check.is("the 39th", x.took(0, 39), 4);
        Check.is("the 40th", x.took(0, 40), -2);
        Check.is("the 41st", x.took(0, 41), -2);
        x.minutes(4);
        Check.is("its begin is known no more", x.took(0, 1), -3);
        Check.is("the second is", x.took(0, 2), 4);
        for (int wrong : new int[] {0, -1, MIN}) {
            Check.is("stroke " + wrong, x.took(0, wrong), -1);
        }
        for (int wrong : new int[] {-1, 1, MIN, MAX}) {
            Check.is("donkey " + wrong, x.took(wrong, 1), -1);
        }
        Check.is("far from now", x.took(0, MAX), -2);
        DonkeysHour y = Check.with("5:0000", "4");
        y.minutes(2);
        Check.is("struck in minute 0", y.struck(0, 1), 0);
        Check.is("from minute 0 on", y.took(0, 1), 1);
    }

    private static void longest() {
        Check.promise(20);
        DonkeysHour x = Check.with("5:0000;5:0000", "1+c");
        x.carrot(0, 8, 10, -1);
        x.carrot(0, 11, 12, 1);
        Check.is("none", x.longest(0), -2);
        x.minutes(4);
        x.ahead(1, 0);
        Check.is("one stroke is no hour", x.longest(0), -2);
        Check.row("the row stays", x, 0, 6);
        x.minutes(156);
        // Donkey 0 strikes in minutes 3, 7, 12, 16, ..
        Check.is("the second", x.longest(0), 2);
        Check.row("the second", x, 5, 1, 4);
        Check.is("of equal ones the first", x.longest(1), 1);
        Check.row("of equal ones the first", x, 4, 1, 4);
        x.minutes(8);
        Check.is("known no more", x.longest(0), 2);
        Check.row("the first is known no more", x, 5, 3, 4);
        x.minutes(4);
        Check.is("the oldest known", x.longest(0), 3);
        Check.row("the oldest known", x, 4, 3, 4);
        for (int wrong : new int[] {-1, 2, MIN, MAX}) {
            Check.is("donkey " + wrong, x.longest(wrong), -1);
        }
    }
}
