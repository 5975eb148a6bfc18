/** Promises 1 to 6: a new object, and what THE TEXT tells of THE STABLE, FLIES, THE RULE. */
final class TextTest {
    private TextTest() {
    }

    static void run() {
        newObject();
        sign();
        end();
        stable();
        stableRoom();
        flies();
        rulesThatStand();
        rulesThatDoNot();
    }

    private static String repeated(String s, int n) {
        StringBuilder all = new StringBuilder();
        for (int i = 0; i < n; i++) {
            all.append(s);
        }
        return all.toString();
    }

    private static void newObject() {
        Check.promise(1);
        DonkeysHour x = new DonkeysHour();
        for (int what = 0; what < 10; what++) {
            Check.is("count " + what, x.count(what), 0);
        }
        Check.missing("no donkey", () -> x.donkey(0, 0));
        Check.missing("no row", () -> x.row(0));
        Check.is("nothing can be undone", x.undo(), -1);
        Check.is("nothing is kept", x.again(0), false);
        Check.is("NONE", DonkeysHour.NONE, -1);
        Check.is("a minute without donkeys", x.minute(), 0);
        Check.row("a minute without donkeys", x, 0, 0);
        Check.is("now", x.count(1), 1);
    }

    private static void sign() {
        Check.promise(2);
        DonkeysHour x = new DonkeysHour();
        Check.is("5:12", x.sign(0x353A3132), 4);
        Check.is("34;9", x.sign(0x33343B39), 8);
        Check.is(":765", x.sign(0x3A373635), 12);
        Check.is("4...", x.sign(0x34000000), 16);
        x.end(13);
        Check.is("the highest byte first", x.stable(), 2);
        Check.is("first thistles", x.thistles(0, 0), 1);
        Check.is("last thistles", x.thistles(1, 3), 4);
        for (int i = 1; i <= 20; i++) {
            Check.is("signs", x.sign(-1), 4 * i);
        }
        Check.is("more than 80", x.sign(0), -1);
        Check.is("they stay", x.count(9), 80);
        x.end(77);
        Check.is("81", x.sign(0), -1);
        x.end(76);
        Check.is("80", x.sign(0), 80);
        x.end(1);
        Check.is("sign 255 is no digit", x.flies(), -1);
    }

    private static void end() {
        Check.promise(3);
        DonkeysHour x = new DonkeysHour();
        Check.is("none of none", x.end(0), true);
        Check.is("one of none", x.end(1), false);
        x.sign(0x31323334);
        Check.is("below 0", x.end(-1), false);
        Check.is("far below 0", x.end(Integer.MIN_VALUE), false);
        Check.is("more than there are", x.end(5), false);
        Check.is("far more", x.end(Integer.MAX_VALUE), false);
        Check.is("nothing was cut", x.count(9), 4);
        Check.is("all", x.end(4), true);
        Check.is("three", x.end(3), true);
        Check.is("three left", x.count(9), 3);
        Check.is("not four again", x.end(4), false);
        Check.is("the first three", x.flies(), 3);
    }

    private static void wrong(DonkeysHour x, String s, int p) {
        int donkeys = x.count(0);
        Check.is("stable " + s, Check.stable(x, s), -1 - p);
        Check.is("donkeys after " + s, x.count(0), donkeys);
        Check.is("the text after " + s, x.count(9), 0);
    }

    private static void stable() {
        Check.promise(4);
        DonkeysHour x = new DonkeysHour();
        Check.is("empty", x.stable(), 0);
        wrong(x, "x", 0);
        wrong(x, ":1234", 0);
        wrong(x, ";", 0);
        wrong(x, "5", 1);
        wrong(x, "51234", 1);
        wrong(x, "5:", 2);
        wrong(x, "5:12;", 4);
        wrong(x, "5:123", 5);
        wrong(x, "5:123;5:1234", 5);
        wrong(x, "5:1234x", 6);
        wrong(x, "5:12345:1234", 7);
        wrong(x, "5:1234;", 7);
        wrong(x, "5:1234;;", 7);
        wrong(x, "5:1234;5:12", 11);
        wrong(x, "5:1234567890123", 14);
        wrong(x, "5:" + repeated("1", 78), 14);
        Check.is("two lines", Check.stable(x, "5:1203;0:123456789012"), 2);
        Check.is("the text is empty", x.count(9), 0);
        Check.is("two donkeys", x.count(0), 2);
        Check.is("hunger", x.donkey(0, 0), 5);
        Check.is("place", x.donkey(0, 1), 0);
        Check.is("strokes", x.donkey(0, 2), 0);
        Check.is("4 places", x.donkey(0, 4), 4);
        Check.is("12 places", x.donkey(1, 4), 12);
        Check.is("thistles", x.donkey(0, 5), 6);
        Check.is("of place 2", x.thistles(0, 2), 0);
        Check.is("of place 11", x.thistles(1, 11), 2);
        Check.is("one more", Check.stable(x, "9:0000"), 1);
        Check.is("it is behind them", x.donkey(2, 0), 9);
    }

    private static void stableRoom() {
        Check.promise(4);
        String line = "5:1234";
        wrong(new DonkeysHour(), line + ";" + line + ";" + line + ";" + line, 21);
        wrong(new DonkeysHour(), line + ";" + line + ";" + line + ";", 21);
        wrong(new DonkeysHour(), line + ";" + line + ";5:123;" + line, 19);
        DonkeysHour x = Check.with(line + ";" + line, "");
        wrong(x, line + ";" + line, 7);
        wrong(x, line + ";x", 7);
        Check.is("room for one", Check.stable(x, line), 1);
        wrong(x, line, 0);
        wrong(x, "x", 0);
        Check.is("an empty one needs no room", x.stable(), 0);
        DonkeysHour late = new DonkeysHour();
        late.minutes(7);
        Check.stable(late, "5:0000");
        Check.is("it comes at any minute", late.minutes(4), 1);
    }

    private static void flies() {
        Check.promise(5);
        DonkeysHour x = Check.with("0:0000", "f");
        Check.is("none at first", x.donkey(0, 6), 0);
        Check.is("three", Check.flies(x, "302"), 3);
        Check.is("the text is empty", x.count(9), 0);
        int[] paces = {3, 0, 2, 3, 0, 2};
        for (int m = 0; m < paces.length; m++) {
            Check.is("minute " + m, x.donkey(0, 6), paces[m]);
            x.minute();
        }
        Check.is("no digit", Check.flies(x, "11x"), -3);
        Check.is("no digit first", Check.flies(x, "/"), -1);
        Check.is("a colon", Check.flies(x, "1:"), -2);
        Check.is("the flies stay", x.donkey(0, 6), 3);
        String forty = repeated("1234", 10);
        Check.is("41 digits", Check.flies(x, forty + "1"), -41);
        Check.is("40 digits and an x", Check.flies(x, forty + "x"), -41);
        Check.is("41, wrong ahead of that", Check.flies(x, "123x" + forty), -4);
        Check.is("the text is empty then, too", x.count(9), 0);
        Check.is("the flies stay", x.donkey(0, 6), 3);
        Check.is("40 digits", Check.flies(x, forty), 40);
        Check.is("minute 6 % 40", x.donkey(0, 6), 3);
        x.minutes(35);
        Check.is("minute 41 % 40", x.donkey(0, 6), 2);
        Check.is("one digit", Check.flies(x, "3"), 1);
        Check.is("the same in each minute", x.donkey(0, 6), 3);
        Check.is("none", x.flies(), 0);
        Check.is("none: 0", x.donkey(0, 6), 0);
    }

    private static void pace(DonkeysHour x, String rule, int due) {
        Check.is("rule " + rule, Check.rule(x, rule), 0);
        Check.is("pace by " + rule, x.donkey(0, 6), due);
        Check.is("the text after " + rule, x.count(9), 0);
    }

    private static void rulesThatStand() {
        Check.promise(6);
        DonkeysHour x = Check.with("3:2000;5:00040", "");
        Check.is("none: 1", x.donkey(0, 6), 1);
        String[] rules = {"h", "p", "t", "f", "c", "m", "k", "i", "4", "007", "-1", "9-6", "6-9", "7/2", "-7/2+4", "1/0+2",
            "2+3*0", "(2+3)*0", "8-4-2", "8/4/2", "8/4*2", "2<3", "3<2", "3<3", "3=3", "3=2", "3>2", "2>3", "3>3", "1+1=2",
            "2=1+1", "--2", "2--1", "2---1", "2*-1+3", "-(1-3)", "((((2))))", "(1<2)<3", "1<(3<2)", "-2*-2", "3-h*0", "(h)",
            "2*3<7-0", "(1)+(2)", "((1)+2)", "5=5/1", "999*999*999*3", "-128*256*256*256/-1", "1-1/2*2",
            repeated("1+", 19) + "1", repeated("-", 39) + "2", repeated("-", 38) + "2"};
        int[] paces = {3, 0, 2, 0, 0, 0, 0, 0, 4, 4, 0, 3, 0, 3, 1, 2,
            2, 0, 2, 1, 4, 1, 0, 0, 1, 0, 1, 0, 0, 1,
            1, 2, 3, 1, 1, 2, 2, 1, 0, 4, 3, 3,
            1, 3, 3, 1, 0, 0, 1,
            4, 0, 2};
        for (int i = 0; i < rules.length; i++) {
            pace(x, rules[i], paces[i]);
        }
        things(x);
        pace(x, "", 1);
    }

    private static void things(DonkeysHour x) {
        Check.rule(x, "i*2+h/5+p*0");
        Check.is("number and hunger of donkey 1", x.donkey(1, 6), 3);
        x.set(1, 1, 3);
        Check.rule(x, "p");
        Check.is("its place", x.donkey(1, 6), 3);
        Check.rule(x, "t");
        Check.is("thistles there", x.donkey(1, 6), 4);
        x.carrot(1, 0, 0, 1);
        x.carrot(1, 0, 9, 1);
        x.carrot(1, 0, 9, -1);
        x.carrot(0, 0, 9, -1);
        Check.rule(x, "c+2");
        Check.is("carrots", x.donkey(1, 6), 3);
        Check.is("of another one", x.donkey(0, 6), 1);
        x.minute();
        Check.is("carrots a minute later", x.donkey(1, 6), 2);
        Check.rule(x, "m+1");
        Check.is("the minute", x.donkey(0, 6), 2);
        DonkeysHour y = Check.with("3:0000", "");
        y.minutes(4 * 13);
        Check.rule(y, "k");
        Check.is("strokes % 12", y.donkey(0, 6), 1);
    }

    private static void rulesThatDoNot() {
        Check.promise(6);
        DonkeysHour x = Check.with("3:2000", "h");
        String[] rules = {"x", "+2", "2+", "2 ", "1234", "1<2<3", "h<t=1", "(2", "2)", "()", "(((((2)))))", "(1<2<3)", "2(3)",
            "hh", "2h", "h2", "*", "-", "1+*2", "(1", "((1)", "(1+2)3", "<1", "1<", "1<>2", "H"};
        int[] at = {0, 0, 2, 1, 3, 3, 3, 2, 1, 1, 4, 4, 1,
            1, 1, 1, 0, 1, 2, 2, 4, 5, 0, 2, 2, 0};
        for (int i = 0; i < rules.length; i++) {
            Check.is("rule " + rules[i], Check.rule(x, rules[i]), -1 - at[i]);
            Check.is("the text after " + rules[i], x.count(9), 0);
        }
        Check.is("40 signs, not ended", Check.rule(x, repeated("1+", 20)), -41);
        Check.is("41 signs", Check.rule(x, repeated("1+", 20) + "1"), -41);
        Check.is("41 signs, the last one wrong", Check.rule(x, repeated("1+", 20) + "x"), -41);
        Check.is("80 signs", Check.rule(x, repeated("-", 80)), -41);
        Check.is("80 signs, wrong at 5", Check.rule(x, "1+1+1x" + repeated("-", 70)), -6);
        Check.is("the rule stays", x.donkey(0, 6), 3);
    }
}
