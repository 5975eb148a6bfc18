/** Promises 26 to 31: CONTRACTS and what is owed by which law. */
final class ContractTest {
    private static final int MIN = Integer.MIN_VALUE;
    private static final int MAX = Integer.MAX_VALUE;

    private ContractTest() {
    }

    static void run() {
        owe();
        tear();
        due();
        owes();
        reading();
        mildest();
    }

    private static void owe() {
        Check.promise(26);
        DonkeysHour x = new DonkeysHour();
        Check.is("no donkeys", x.owe(0, 1, 5, 0, 0), -1);
        Check.stable(x, "5:0000");
        Check.is("first", x.owe(0, 5, 1, 0, 0), 0);
        Check.is("second", x.owe(5, 0, 99, 0, 11), 1);
        int[][] wrong = {{-1, 1, 5, 0, 0}, {6, 1, 5, 0, 0}, {0, -1, 5, 0, 0}, {0, 6, 5, 0, 0}, {3, 3, 5, 0, 0},
            {0, 1, 0, 0, 0}, {0, 1, 100, 0, 0}, {0, 1, 5, -1, 0}, {0, 1, 5, 1, 0}, {0, 1, 5, 0, -1}, {0, 1, 5, 0, 12},
            {MIN, 1, 5, 0, 0}, {0, MAX, 5, 0, 0}, {0, 1, MIN, 0, 0}, {0, 1, 5, MAX, 0}, {0, 1, 5, 0, MAX}};
        for (int[] a : wrong) {
            Check.is("owe " + java.util.Arrays.toString(a), x.owe(a[0], a[1], a[2], a[3], a[4]), -1);
        }
        Check.is("two", x.count(3), 2);
        for (int i = 2; i < 10; i++) {
            Check.is("number", x.owe(2, 3, 50, 0, 5), i);
        }
        Check.is("10 are there", x.owe(2, 3, 50, 0, 5), -2);
        Check.is("NONE is asked first", x.owe(2, 2, 50, 0, 5), -1);
        Check.is("ten", x.count(3), 10);
    }

    private static void tear() {
        Check.promise(27);
        DonkeysHour x = Check.with("5:0000", "");
        Check.is("none", x.tear(), 0);
        x.owe(0, 5, 1, 0, 1);
        x.owe(0, 5, 1, 0, 1);
        Check.is("two", x.tear(), 2);
        Check.is("none any more", x.count(3), 0);
        Check.is("not due", x.due(0, 0, 100), -1);
        Check.is("nothing owed", x.owes(0, 2, 600), 0);
        Check.is("none", x.tear(), 0);
        Check.is("numbers begin again", x.owe(0, 5, 1, 0, 1), 0);
    }

    private static void due() {
        Check.promise(28);
        DonkeysHour x = Check.with("5:0000;5:00000", "");
        x.owe(0, 1, 10, 0, 1);
        x.owe(0, 1, 10, 1, 0);
        // Donkey 0 strikes 1 in minutes 3, 51, 99, ..; donkey 1 strikes 0 in minutes 59, 119, ..
        Check.is("law 0", x.due(0, 0, 100), 3);
        Check.is("law 1", x.due(0, 1, 100), 99);
        Check.is("law 1, a minute less", x.due(0, 1, 99), 51);
        Check.is("law 2", x.due(0, 2, 100), 3);
        Check.is("law 3, three times", x.due(0, 3, 100), -2);
        Check.is("law 3, once", x.due(0, 3, 51), 3);
        Check.is("law 3, twice", x.due(0, 3, 52), -2);
        for (int law = 0; law < 4; law++) {
            Check.is("in minute 3, law " + law, x.due(0, law, 4), 3);
            Check.is("not in 3 minutes, law " + law, x.due(0, law, 3), -2);
            Check.is("of the other one, law " + law, x.due(1, law, 60), 59);
            Check.is("of the other one, law " + law, x.due(1, law, 59), -2);
        }
        Check.is("600 minutes", x.due(1, 1, 600), 599);
        x.minutes(52);
        Check.is("counted from now", x.due(0, 0, 100), 47);
        int[][] wrong = {{-1, 0, 5}, {2, 0, 5}, {0, -1, 5}, {0, 4, 5}, {0, 0, 0}, {0, 0, 601}, {MAX, 0, 5}, {0, MAX, 5},
            {0, 0, MIN}, {0, MIN, 5}};
        for (int[] a : wrong) {
            Check.is("due " + java.util.Arrays.toString(a), x.due(a[0], a[1], a[2]), -1);
        }
    }

    /** Two clocks: 0 strikes each 4 minutes, 1 each 5; hours 1 come in minutes 3, 51, .. and 4, 64, .. */
    private static DonkeysHour owing() {
        DonkeysHour x = Check.with("5:0000;5:00000", "");
        x.owe(0, 1, 10, 0, 1);
        x.owe(1, 0, 7, 1, 1);
        x.owe(0, 2, 1, 0, 2);
        return x;
    }

    private static void owes() {
        Check.promise(29);
        DonkeysHour x = owing();
        int[] owed = {11, 11, 32, 0};
        int[] get = {7, 7, 14, 0};
        for (int law = 0; law < 4; law++) {
            Check.is("0 owes, law " + law, x.owes(0, law, 104), law == 2 ? 33 : owed[law]);
            Check.row("0 is owed, law " + law, x, get[law]);
        }
        Check.is("a minute less", x.owes(0, 2, 103), 32);
        Check.is("once each", x.owes(0, 3, 51), 11);
        Check.row("once each", x, 7);
        Check.is("2 owes none", x.owes(2, 2, 104), 0);
        Check.row("2 is owed", x, 3);
        Check.is("5 owes none", x.owes(5, 2, 104), 0);
        Check.row("5 is owed none", x, 0);
        int[][] wrong = {{-1, 0, 5}, {6, 0, 5}, {0, -1, 5}, {0, 4, 5}, {0, 0, 0}, {0, 0, 601}, {MAX, 0, 5}, {0, MIN, 5}};
        for (int[] a : wrong) {
            Check.is("owes " + java.util.Arrays.toString(a), x.owes(a[0], a[1], a[2]), -1);
        }
        Check.row("the row stays", x, 0);
    }

    private static void reading() {
        Check.promise(30);
        DonkeysHour x = owing();
        Check.is("0 likes law 3", x.reading(0, 104), 3);
        Check.row("0", x, 4, 4, 19, 0);
        Check.is("1 likes law 2", x.reading(1, 104), 2);
        Check.row("1", x, -3, -3, -16, 0);
        Check.is("of equal ones the first", x.reading(0, 50), 0);
        Check.row("of equal ones the first", x, 4, 4, 4, 4);
        Check.is("who owes nothing", x.reading(5, 600), 0);
        Check.row("who owes nothing", x, 0, 0, 0, 0);
        int[][] wrong = {{-1, 5}, {6, 5}, {0, 0}, {0, 601}, {MAX, 5}, {0, MIN}};
        for (int[] a : wrong) {
            Check.is("reading " + java.util.Arrays.toString(a), x.reading(a[0], a[1]), -1);
        }
        Check.row("the row stays", x, 0, 0, 0, 0);
    }

    private static void mildest() {
        Check.promise(31);
        DonkeysHour x = new DonkeysHour();
        Check.is("no contracts", x.mildest(1), 0);
        Check.row("no contracts", x, 0);
        x = owing();
        Check.is("nobody owes by law 3", x.mildest(104), 3);
        Check.row("nobody owes by law 3", x, 0);
        Check.is("of equal ones the first", x.mildest(50), 0);
        Check.row("of equal ones the first", x, 4);
        x = Check.with("5:0000", "");
        x.owe(0, 1, 10, 0, 1);
        x.owe(1, 2, 8, 0, 2);
        x.owe(5, 2, 3, 0, 4);
        // In 53 minutes hour 1 is struck twice, the others once: by law 3 person 1 owes 8.
        Check.is("the most is less by law 3", x.mildest(53), 3);
        Check.row("the most is less by law 3", x, 8);
        x.owe(0, 1, 1, 0, 2);
        x.tear();
        x.owe(0, 1, 10, 0, 2);
        x.owe(1, 0, 10, 0, 1);
        Check.is("law 2", x.mildest(53), 0);
        Check.row("law 2", x, 0);
        x.owe(0, 1, 10, 0, 3);
        Check.is("each time", x.mildest(53), 2);
        Check.row("each time", x, 0);
        for (int wrong : new int[] {0, -1, 601, MIN, MAX}) {
            Check.is("mildest " + wrong, x.mildest(wrong), -1);
        }
        Check.row("the row stays", x, 0);
    }
}
