/** Boundary cases of promises 1 to 6: a new object, THE TEXT, and what it tells of THE STABLE, FLIES, THE RULE. */
final class TextEdges {
    private static final String ONE = "stable '5:0000'";
    private static final String L = "5:0000";
    private static final String FORTY = "1234123412341234123412341234123412341234";

    private TextEdges() {
    }

    static void run() {
        newObject();
        sign();
        end();
        stableLines();
        stableSigns();
        stableRoom();
        flies();
        rulePace();
        ruleSigns();
        ruleLength();
    }

    private static String repeated(String s, int n) {
        StringBuilder all = new StringBuilder();
        for (int i = 0; i < n; i++) {
            all.append(s);
        }
        return all.toString();
    }

    private static void newObject() {
        Edge.of(1, "No DONKEYS", "count 0 = 0 | count 4 = 0 | count 5 = 0 | donkey 0 0 ~ ! | thistles 0 0 ~ -1",
            "when 0 1 ~ -1");
        Edge.of(1, "No DONKEYS: a MINUTE without any", "minute = 0 | rows 0 0 | minutes 5 = 0 | rows 0",
            "count 1 = 6");
        Edge.of(1, "it is MINUTE 0", "count 1 = 0 | " + ONE + " | rule '(m=0)*3' | donkey 0 6 = 3 | minute",
            "donkey 0 6 = 0");
        Edge.of(1, "NOW (at first 0): the first MINUTE has number 0", ONE + " | rule '4' | minute = 1",
            "struck 0 1 = 0");
        Edge.of(1, "nothing is there yet", "count 2 = 0 | count 3 = 0 | count 6 = 0 | count 7 = 0 | count 8 = 0",
            "count 9 = 0", "row 0 ~ ! | eat ~ -1 | undo ~ -1 | again 0 ~ 0 | again 1 ~ 0 | tear ~ 0 | forget ~ 0");
        Edge.of(1, "used for at most 512 calls: the 512th answers", "511x minute | count 1 = 511");
        Edge.of(1, "used for at most 512 calls: as many MINUTES as they let go by", ONE, "503x minutes 600",
            "count 1 = 301800 | struck 0 75450 = 301799 | struck 0 75411 = 301643 | struck 0 75410 = -3");
        Edge.of(1, "the constant", "eat = " + DonkeysHour.NONE + " | eat = -1");
    }

    private static void sign() {
        Edge.of(2, "Four signs come behind THE TEXT", ONE + " | rule 'f'", "sign 0x31323334 = 4 | end 2",
            "sign 0x34333231 = 6 | flies = 6", "donkey 0 6 = 1 | minute | donkey 0 6 = 2 | minute | donkey 0 6 = 4",
            "minute | donkey 0 6 = 3");
        Edge.of(2, "of v the highest byte first", "sign 0x363A3132 | sign 0x33340000 | end 6 | stable = 1",
            "donkey 0 0 = 6 | thistles 0 0 = 1 | thistles 0 1 = 2 | thistles 0 2 = 3 | thistles 0 3 = 4");
        Edge.of(2, "how many it has", "sign 0 = 4 | sign 0 = 8 | count 9 = 8 | end 5 | sign 0 = 9");
        Edge.of(2, "four signs come of 0 and of -1, too", "sign 0 = 4 | flies ~ -1 | sign -1 = 4 | flies ~ -1",
            "sign -2147483648 = 4");
        Edge.of(2, "a lowest byte is its lowest eight bits", "sign 0x31313139 = 4 | flies = 4 | sign 0x3131313A = 4",
            "flies ~ -4");
        Edge.of(2, "Refused: there would be more than 80", "19x sign 0 | count 9 = 76 | sign 0 = 80 | sign 0 ~ -1",
            "sign -1 ~ -1");
        Edge.of(2, "Refused: more than 80, by one sign alone", "20x sign 0 | end 77 | sign 0 ~ -1 | count 9 = 77",
            "end 76 | sign 0 = 80");
        Edge.of(2, "80 signs of a text that was read are room again", "20x sign 0 | flies = -1 | sign 0 = 4");
    }

    private static void end() {
        Edge.of(3, "its first n signs alone", "sign 0x31323A34 | end 2 = 1 | count 9 = 2 | flies = 2");
        Edge.of(3, "n is how many it has: true", "sign 0 | end 4 = 1 | count 9 = 4 | 19x sign 0 | end 80 = 1",
            "count 9 = 80");
        Edge.of(3, "n is 0: true", "end 0 = 1 | sign 0 | end 0 = 1 | count 9 = 0 | end 0 = 1");
        Edge.of(3, "false if it has not so many", "end 1 ~ 0 | sign 0 | end 5 ~ 0 | end 2147483647 ~ 0 | end 3 = 1",
            "end 4 ~ 0");
        Edge.of(3, "false if it has not so many: 81 of 80", "20x sign 0 | end 81 ~ 0");
        Edge.of(3, "false if n is below 0", "end -1 ~ 0 | sign 0 | end -1 ~ 0 | end -2147483648 ~ 0 | count 9 = 4");
    }

    private static void stableLines() {
        Edge.of(4, "an empty one: nothing", "stable ~ 0 | " + ONE + " | minute | stable ~ 0");
        Edge.of(4, "how many LINES", "stable '" + L + "' = 1 | stable '" + L + ";" + L + "' = 2 | count 0 = 3");
        Edge.of(4, "how many LINES: as many as there can be", "stable '" + L + ";" + L + ";" + L + "' = 3",
            "count 0 = 3");
        Edge.of(4, "DONKEYS 0 .. (at most 3)", "3x " + ONE + " | count 0 = 3 | " + ONE + " ~ -1 | donkey 2 0 = 5",
            "donkey 3 0 ~ !");
        Edge.of(4, "each a DONKEY more: behind those that are there", "stable '1:0000' | stable '2:00000;3:000000'",
            "donkey 0 0 = 1 | donkey 1 0 = 2 | donkey 2 0 = 3 | donkey 0 4 = 4 | donkey 1 4 = 5 | donkey 2 4 = 6");
        Edge.of(4, "HUNGER (a digit): 0 .. 9", "stable '0:0000;9:0000' = 2 | donkey 0 0 = 0 | donkey 1 0 = 9",
            "stable '/:0000' ~ -1 | stable '::0000' ~ -1");
        Edge.of(4, "THISTLES 0 .. 9 each", "stable '5:0990' = 1 | thistles 0 0 = 0 | thistles 0 2 = 9",
            "donkey 0 5 = 18", "stable '5:/000' ~ -3 | stable '5:000:' ~ -6");
        Edge.of(4, "a ROUND of 4 PLACES and more", "stable '5:000' ~ -6 | stable '5:000;5:0000' ~ -6",
            "stable '5:' ~ -3", ONE + " = 1 | donkey 0 4 = 4");
        Edge.of(4, "a ROUND of 12 PLACES and fewer", "stable '5:0000000000000' ~ -15",
            "stable '5:0000000000000;5:0000' ~ -15", "stable '5:123456789012' = 1 | donkey 0 4 = 12",
            "thistles 0 11 = 2");
        Edge.of(4, "the PLACE where it is (at first 0), STROKES (at first 0)", ONE + " | minutes 6 | " + ONE,
            "donkey 0 1 = 2 | donkey 0 2 = 1 | donkey 1 1 = 0 | donkey 1 2 = 0 | struck 1 1 ~ -2");
        Edge.of(4, "Nothing of it comes, if a LINE can't", "stable '5:1234;5:123' ~ -13 | count 0 = 0 | count 5 = 0");
        Edge.of(4, "Nothing of it comes: not its PLACES, either", "stable '9:999999999999;x' ~ -16",
            "stable '1:0000' = 1 | donkey 0 0 = 1 | donkey 0 4 = 4 | donkey 0 5 = 0 | thistles 0 4 ~ -1");
        Edge.of(4, "a call that reads THE TEXT empties it", "stable '" + L + "' | count 9 = 0 | stable 'x' = -1",
            "count 9 = 0");
    }

    private static void stableSigns() {
        Edge.of(4, "the sign at p can't stand there: the first one", "stable 'x' ~ -1 | stable ';' ~ -1",
            "stable ':0000' ~ -1", "stable ' 5:0000' ~ -1");
        Edge.of(4, "the sign at p can't stand there: no : behind HUNGER", "stable '50000' ~ -2",
            "stable '5;0000' ~ -2", "stable '5 :0000' ~ -2 | stable '10:0000' ~ -2");
        Edge.of(4, "the sign at p can't stand there: among the PLACES", "stable '5:x' ~ -3 | stable '5:12x4' ~ -5",
            "stable '5:123:' ~ -6 | stable '5:123;' ~ -6");
        Edge.of(4, "the sign at p can't stand there: behind the PLACES", "stable '5:1234x' ~ -7",
            "stable '5:1234:' ~ -7", "stable '5:1234,5:1234' ~ -7 | stable '5:123456789012x' ~ -15");
        Edge.of(4, "the sign at p can't stand there: in a second LINE", "stable '5:1234;x' ~ -8",
            "stable '5:1234;;5:1234' ~ -8", "stable '5:1234;5x' ~ -9 | stable '5:1234;5:12x4' ~ -12");
        Edge.of(4, "a sign of number 0 can't stand there", "sign 0x353A3030 | sign 0x30300000 | stable ~ -7");
        Edge.of(4, "its end, if it ends too early", "stable '5' ~ -2 | stable '5:' ~ -3 | stable '5:1' ~ -4",
            "stable '5:123' ~ -6");
        Edge.of(4, "its end, if it ends too early: behind ;", "stable '5:1234;' ~ -8",
            "stable '5:123456789012;' ~ -16", "stable '5:1234;5' ~ -9 | stable '5:1234;5:' ~ -10",
            "stable '5:1234;5:123' ~ -13");
    }

    private static void stableRoom() {
        Edge.of(4, "the first sign of a LINE for which there is no room: of three",
            "stable '" + repeated(L + ";", 3) + L + "' ~ -22", "stable '" + repeated(L + ";", 2) + L + "' = 3");
        Edge.of(4, "the first sign of a LINE for which there is no room: of two",
            ONE + " | stable '" + repeated(L + ";", 2) + L + "' ~ -15", "stable '" + L + ";" + L + "' = 2");
        Edge.of(4, "the first sign of a LINE for which there is no room: of none",
            "stable '" + repeated(L + ";", 2) + L + "'", ONE + " ~ -1 | stable 'x' ~ -1 | stable ~ 0");
        Edge.of(4, "a LINE for which there is no room: whatever stands in it",
            "stable '" + repeated(L + ";", 3) + "x' ~ -22", "stable '" + repeated(L + ";", 3) + "5:12x4' ~ -22",
            "stable '" + repeated(L + ";", 3) + "' ~ -22");
        Edge.of(4, "a sign ahead of a LINE for which there is no room",
            "stable '" + repeated(L + ";", 2) + "5:000;" + L + "' ~ -20",
            "stable '" + L + ";x;" + L + ";" + L + "' ~ -8");
        Edge.of(4, "a text of at most 76 signs: of 80 the first sign that can't stand",
            "stable '5:" + repeated("1", 78) + "' ~ -15",
            "stable '" + repeated("5:123456789012;", 5) + "5:123' ~ -46");
    }

    private static void flies() {
        String pace = ONE + " | rule 'f' | ";
        Edge.of(5, "at first none: 0 always", pace + "donkey 0 6 = 0 | minute | donkey 0 6 = 0 | ahead 0 600 = 0");
        Edge.of(5, "an empty one: none", pace + "flies '3' = 1 | donkey 0 6 = 3 | flies = 0 | donkey 0 6 = 0",
            "minute | donkey 0 6 = 0");
        Edge.of(5, "how many digits", "flies '1' = 1 | flies '123' = 3 | flies '" + FORTY.substring(1) + "' = 39");
        Edge.of(5, "a text of at most 40 digits", "flies '" + FORTY + "' = 40 | flies '" + FORTY + "1' ~ -41");
        Edge.of(5, "40, if it has more and the first 40 could go on", "flies '" + FORTY + "x' ~ -41",
            "flies '" + FORTY + FORTY + "' ~ -41");
        Edge.of(5, "the sign at p can't stand there, ahead of more than 40", "flies '123x" + FORTY + "' ~ -4",
            "flies '" + FORTY.substring(1) + "x" + FORTY + "' ~ -40");
        Edge.of(5, "the sign at p can't stand there", "flies 'x' ~ -1 | flies '1 ' ~ -2 | flies '12-' ~ -3",
            "flies '12x4' ~ -3");
        Edge.of(5, "digits: 0 and 9, not the signs beside them", pace + "flies '09' = 2 | donkey 0 6 = 0 | minute",
            "donkey 0 6 = 4", "flies '0/' ~ -2 | flies '0:' ~ -2");
        Edge.of(5, "refused, the FLIES stay", pace + "flies '2' | flies '33x' ~ -3 | flies '" + FORTY + "1' ~ -41",
            "donkey 0 6 = 2");
        Edge.of(5, "a call that reads THE TEXT empties it", "flies '12' | count 9 = 0 | flies 'x' | count 9 = 0");
        Edge.of(5, "in MINUTE m (0 ..) the digit m % (how many): of three", pace + "flies '312' | donkey 0 6 = 3",
            "minutes 2", "donkey 0 6 = 2 | minute | donkey 0 6 = 3 | minute | donkey 0 6 = 1");
        Edge.of(5, "in MINUTE m (0 ..) the digit m % (how many): of forty",
            pace + "flies '2" + repeated("1", 38) + "3' = 40", "minutes 39 | donkey 0 6 = 3 | minute",
            "donkey 0 6 = 2 | minute | donkey 0 6 = 1");
        Edge.of(5, "of fewer digits than there were", pace + "flies '" + FORTY + "' | flies '21' = 2 | minutes 2",
            "donkey 0 6 = 2");
    }

    private static String paces(String... rulesAndPaces) {
        StringBuilder steps = new StringBuilder("stable '3:2000'");
        for (int i = 0; i + 1 < rulesAndPaces.length; i += 2) {
            steps.append(" | rule '").append(rulesAndPaces[i]).append("' = 0");
            steps.append(" | donkey 0 6 = ").append(rulesAndPaces[i + 1]);
        }
        return steps.toString();
    }

    private static void rulePace() {
        Edge.of(6, "at first none: 1", ONE + " | donkey 0 6 = 1");
        Edge.of(6, "an empty one: none", ONE + " | rule '3' | donkey 0 6 = 3 | rule = 0 | donkey 0 6 = 1");
        Edge.of(6, "refused, THE RULE stays", ONE + " | rule '3' | rule '2x' ~ -2 | rule '2+' ~ -3 | donkey 0 6 = 3");
        Edge.of(6, "a call that reads THE TEXT empties it", "rule '1' | count 9 = 0 | rule 'x' | count 9 = 0");
        Edge.of(6, "put to 0 .. 4: 4 at most", paces("4", "4", "5", "4", "999", "4", "2+2", "4", "2+1", "3"));
        Edge.of(6, "put to 0 .. 4: 0 at least", paces("0", "0", "-1", "0", "-999", "0", "1-1", "0", "2-1", "1"));
        Edge.of(6, "As ints: what is too large wraps around",
            paces("999*999*999*3", "0", "999*999*999*2", "4", "-999*999*999*3", "4"));
        Edge.of(6, "As ints: the least one by -1", paces("-128*256*256*256/-1", "0", "-128*256*256*256/-1<0", "1"));
        Edge.of(6, "As ints: it wraps around before it goes on",
            paces("999*999*999*3/999/999/999", "0", "999*999*999*3<0", "1", "999*999*999*2+999*999*999<0", "1"));
        Edge.of(6, "- ahead of a thing: of the least int",
            paces("-(128*256*256*256)/2", "0", "-(128*256*256*256)<0", "1"));
        Edge.of(6, "< of equal ones: 0", paces("3<3", "0", "2<3", "1", "3<2", "0"));
        Edge.of(6, "> of equal ones: 0", paces("3>3", "0", "3>2", "1", "2>3", "0"));
        Edge.of(6, "= of equal ones: 1", paces("3=3", "1", "2=3", "0", "3=2", "0"));
        Edge.of(6, "1 or 0", paces("(3>2)+2", "3", "(2>3)+2", "2", "(9>2)*3", "3"));
        Edge.of(6, "by 0: 0", paces("1/0", "0", "1/0+2", "2", "0/0+3", "3", "3-9/(h-3)", "3", "-7/0+1", "1"));
        Edge.of(6, "cut to 0",
            paces("7/2", "3", "-7/2+4", "1", "7/-2+4", "1", "-7/-2", "3", "1/2+1", "1", "-1/2+1", "1"));
        Edge.of(6, "+ - (from the left)", paces("8-4-2", "2", "8-4+2-3", "3", "2-1+1", "2"));
        Edge.of(6, "* / (from the left)", paces("8/4/2", "1", "8/4*2", "4", "7/2*1", "3", "3*3/2", "4"));
        Edge.of(6, "< > = bind least",
            paces("1+1=2", "1", "2=1+1", "1", "2*1<3-0", "1", "3<1*2+1", "0", "1-1>0-1", "1"));
        Edge.of(6, "then * /: more than + -", paces("1+2*1", "3", "4-2/2", "3", "2*1+1", "3", "4/2-1", "1"));
        Edge.of(6, "then - ahead of a thing (any many)",
            paces("--2", "2", "2--1", "3", "2---1", "1", "2*-1+3", "1", "-(1-3)", "2"));
        Edge.of(6, "- ahead of a thing binds more than < and +",
            paces("-1<0", "1", "-1+3", "2", "-1=0-1", "1", "3+-1", "2"));
        Edge.of(6, "k STROKES % 12", "stable '5:000000000000' | rule 'k' | donkey 0 6 = 0", "rule '1' | set 0 1 11",
            "minutes 121 | rule 'k' | donkey 0 2 = 11 | donkey 0 6 = 4 | rule 'k-9' | donkey 0 6 = 2", "rule '1'",
            "minutes 12 | rule 'k+1' | donkey 0 2 = 12 | donkey 0 6 = 1 | rule '1' | minutes 12 | rule 'k+1'",
            "donkey 0 6 = 2");
        Edge.of(6, "c the CARROTS that hurry it, less those that hold it: below 0, too", ONE + " | rule 'c+3'",
            "donkey 0 6 = 3", "carrot 0 0 9 -1 | carrot 0 0 9 -1 | donkey 0 6 = 1 | carrot 0 0 9 1 | donkey 0 6 = 2");
        Edge.of(6, "m the MINUTE: NOW", ONE + " | rule 'm' | donkey 0 6 = 0 | minute | donkey 0 6 = 1 | minute = 0",
            "donkey 0 6 = 2");
        Edge.of(6, "h HUNGER, p its PLACE, t THISTLES there, i its number", "stable '5:0000;3:10204' | set 1 1 2",
            "rule 'h' | donkey 1 6 = 3 | rule 'p' | donkey 1 6 = 2 | rule 't' | donkey 1 6 = 2 | rule 'i'",
            "donkey 1 6 = 1 | donkey 0 6 = 0");
    }

    private static void ruleSigns() {
        Edge.of(6, "the sign at p can't stand there: the first one", "rule 'x' ~ -1 | rule '+2' ~ -1 | rule '*' ~ -1",
            "rule ')' ~ -1", "rule 'H' ~ -1 | rule ' 2' ~ -1 | rule '<1' ~ -1");
        Edge.of(6, "the sign at p can't stand there: behind a thing", "rule '2 ' ~ -2 | rule 'hh' ~ -2",
            "rule '2h' ~ -2 | rule 'h2' ~ -2", "rule '2(3)' ~ -2 | rule '(1)(2)' ~ -4");
        Edge.of(6, "the sign at p can't stand there: where a thing is due", "rule '1+*2' ~ -3 | rule '1<>2' ~ -3",
            "rule '1+x' ~ -3", "rule '-+1' ~ -2 | rule '()' ~ -2 | rule '(1+)' ~ -4");
        Edge.of(6, "a sign of number 0, or above 127, can't stand there", "sign 0x31000000 | rule ~ -2",
            "sign 0x312BE800 | rule ~ -3 | sign -1 | rule ~ -1");
        Edge.of(6, "its end, if it ends too early", "rule '-' ~ -2 | rule '2+' ~ -3 | rule '2<' ~ -3 | rule '(' ~ -2",
            "rule '(2' ~ -3", "rule '((1)' ~ -5");
        Edge.of(6, "< > = not one behind the other", "rule '1<2<3' ~ -4 | rule 'h<t=1' ~ -4 | rule '1=2>3' ~ -4",
            "rule '1<2+3*4=5' ~ -8");
        Edge.of(6, "< > = not one behind the other: in ( ) neither", "rule '(1<2<3)' ~ -5 | rule '1+(h=t=3)' ~ -7",
            "rule '(1<2)<3<4' ~ -8");
        Edge.of(6, "< > = not one behind the other: but in one another", "stable '3:2000' | rule '(1<2)<3' = 0",
            "donkey 0 6 = 1", "rule '1<(3<2)' = 0 | donkey 0 6 = 0 | rule '(1<2)=(3>2)' = 0 | donkey 0 6 = 1");
        Edge.of(6, "a NUMBER of 1 to 3 digits", paces("4", "4", "04", "4", "004", "4", "999-997", "2"),
            "rule '0004' ~ -4 | rule '1000' ~ -4");
        Edge.of(6, "an EXPRESSION in ( ) (at most 4 in one another)",
            paces("((((2))))", "2", "(((1)))+((((2))))", "3"), "rule '(((((2)))))' ~ -5 | rule '1+(((((2)))))' ~ -7",
            "rule '((((-(2)))))' ~ -6");
        Edge.of(6, "at most 4 in one another: beside one another any many",
            paces("(1)+(0)+(0)+(1)+(1)", "3", "((((1)))+(((1))))", "2"));
        Edge.of(6, "a ) without (", "rule '2)' ~ -2 | rule '(2))' ~ -4 | rule '(1)+2)' ~ -6");
    }

    private static void ruleLength() {
        String half = repeated("1+", 19);
        Edge.of(6, "40 signs: 39 and 40 stand",
            paces(half + "1", "4", repeated("0+", 19) + "2", "2"),
            paces(repeated("-", 39) + "2", "0", repeated("0+", 18) + "--01", "1"));
        Edge.of(6, "its end, if it ends too early: behind 40 signs", "rule '" + half + "1+' ~ -41",
            "rule '" + repeated("-", 40) + "' ~ -41");
        Edge.of(6, "40, if it has more and the first 40 could end", "rule '" + half + "111' ~ -41",
            "rule '" + half + "11x' ~ -41");
        Edge.of(6, "40, if it has more and the first 40 could go on", "rule '" + half + "1+1' ~ -41",
            "rule '" + half + "1+x' ~ -41", "rule '" + repeated("-", 80) + "' ~ -41");
        Edge.of(6, "the sign at p can't stand there, ahead of more than 40", "rule '" + half + "x" + half + "' ~ -39",
            "rule '" + half + "1x" + half + "' ~ -40 | rule '1+1+1x" + repeated("-", 70) + "' ~ -6");
    }
}
