/** Promises 50 to 53: what is kept, counted, told. */
final class KeptTest {
    private static final int MIN = Integer.MIN_VALUE;
    private static final int MAX = Integer.MAX_VALUE;

    private KeptTest() {
    }

    static void run() {
        keep();
        again();
        count();
        row();
    }

    private static void keep() {
        Check.promise(50);
        DonkeysHour x = Check.with("5:0010", "");
        for (int wrong : new int[] {-1, 2, MIN, MAX}) {
            Check.is("keep " + wrong, x.keep(wrong), false);
            Check.is("again " + wrong, x.again(wrong), false);
        }
        Check.is("keep 0", x.keep(0), true);
        x.minutes(5);
        Check.is("keep 1", x.keep(1), true);
        x.minutes(5);
        x.again(1);
        Check.is("as kept under 1", x.count(1), 5);
        x.again(0);
        Check.is("as kept under 0", x.count(1), 0);
        x.minutes(7);
        Check.is("kept anew", x.keep(0), true);
        x.minutes(5);
        x.again(0);
        Check.is("as kept anew", x.count(1), 7);
        x.again(1);
        Check.is("the other one stays", x.count(1), 5);
        Check.is("keeping forgets nothing that can be undone", x.minutes(1), 0);
        x.keep(1);
        Check.is("one can be undone", x.count(6), 1);
    }

    private static void again() {
        Check.promise(51);
        DonkeysHour x = Check.with("5:0030;7:00000", "1+c");
        Check.is("nothing kept", x.again(0), false);
        x.minutes(20);
        x.carrot(0, 5, 40, -1);
        x.keep(0);
        Check.is("nothing kept under 1", x.again(1), false);
        x.eat();
        x.carrot(0, 5, 400, 1);
        x.carrot(1, 5, 400, 1);
        x.minutes(200);
        x.set(1, 0, 0);
        x.sow(0, 2, 9);
        x.owe(0, 1, 5, 0, 1);
        x.heard(0, 1, 5);
        Check.rule(x, "2+c");
        x.ahead(0, 0);
        Check.is("again", x.again(0), true);
        Check.is("now", x.count(1), 20);
        Check.is("thistles", x.thistles(0, 2), 0);
        Check.is("hunger", x.donkey(1, 0), 9);
        Check.is("place", x.donkey(1, 1), 0);
        Check.is("strokes", x.count(4), 9);
        Check.is("the book", x.struck(1, 4), 19);
        Check.is("no more in the book", x.struck(1, 5), -2);
        Check.is("carrots", x.count(2), 1);
        Check.is("the rule is the new one, the carrot the old one", x.donkey(0, 6), 1);
        Check.is("contracts stay", x.count(3), 1);
        Check.is("what was heard stays", x.count(7), 1);
        Check.is("the row stays", x.count(8), 2);
        Check.is("nothing can be undone", x.count(6), 0);
        x.eat();
        x.carrot(1, 300, 310, 1);
        x.again(0);
        Check.is("the carrot holds as it did", x.donkey(0, 6), 1);
        x.minutes(20);
        Check.is("as long as it did", x.donkey(0, 6), 1);
        x.minutes(1);
        Check.is("and not longer", x.donkey(0, 6), 2);
        Check.is("it is kept still", x.again(0), true);
        Check.is("now", x.count(1), 20);
        x.stable();
        Check.is("no donkeys came", x.again(0), true);
        Check.stable(x, "5:12");
        Check.is("nor by one that is refused", x.again(0), true);
        x.minutes(3);
        Check.stable(x, "5:0000");
        Check.is("donkeys came", x.again(0), false);
        Check.is("now stays", x.count(1), 23);
        x.keep(0);
        Check.is("kept since", x.again(0), true);
    }

    private static void count() {
        Check.promise(52);
        DonkeysHour x = Check.with("5:0130;7:00002", "1");
        x.carrot(0, 5, 9, -1);
        x.carrot(0, 5, 9, -1);
        x.carrot(0, 5, 9, -1);
        x.owe(0, 1, 5, 0, 1);
        x.heard(0, 1, 5);
        x.heard(1, 1, 5);
        x.minutes(3);
        x.minutes(6);
        x.sign(0);
        long[] due = {2, 9, 3, 1, 3, 1, 2, 2, 3, 4};
        for (int what = 0; what < due.length; what++) {
            Check.is("count " + what, x.count(what), due[what]);
        }
        for (int wrong : new int[] {-1, 10, MIN, MAX}) {
            Check.is("count " + wrong, x.count(wrong), -1);
        }
    }

    private static void row() {
        Check.promise(53);
        DonkeysHour x = Check.with("5:0130;7:00002", "1");
        Check.missing("no row yet", () -> x.row(0));
        x.minutes(9);
        Check.is("thistles", x.row(0), 5);
        Check.is("strokes of 0", x.row(1), 2);
        Check.is("strokes of 1", x.row(2), 1);
        for (int wrong : new int[] {-1, 3, 4, MIN, MAX}) {
            Check.missing("row " + wrong, () -> x.row(wrong));
        }
        x.ahead(0, 0);
        Check.missing("a shorter row", () -> x.row(2));
        Check.is("its last number", x.row(1), x.donkey(0, 0));
        x.ahead(0, -1);
        x.when(0, 5);
        x.count(3);
        Check.row("it stays", x, 1, x.donkey(0, 0));
        x.heard(0, 60, 1);
        x.ways(0);
        Check.missing("an empty row", () -> x.row(0));
    }
}
