import java.util.ArrayList;
import java.util.Arrays;
import java.util.List;

/**
 * One sentence of the document that names a boundary case, and steps on a new object that answer
 * otherwise if it is broken. Steps stand between bars:
 *
 * <pre>
 *   stable '5:0000'      the text is told first (behind THE TEXT), then the call made
 *   when 0 1 = 4         the answer; ! is a NoSuchElementException, true and false are 1 and 0
 *   when 0 1 ? 4         the same, and nothing else than the ROW has changed: a question
 *   when 0 0 ~ -1        the same, and nothing at all has changed (but THE TEXT, emptied by a call that reads it);
 *                        a ROW is told ahead of it if there is none, and a TEXT lent to calls that do not read it
 *   rows 4 1             the ROW has these numbers and no others
 *   10x minute           a step so many times
 * </pre>
 */
final class Edge {
    private static final int MOST_CALLS = 512;
    private static final List<String> READERS = Arrays.asList("stable", "flies", "rule", "day");
    private static final List<String> TELLERS = Arrays.asList("stable", "flies", "rule", "day", "sign", "end");
    private static final String[] FACTS = {"DONKEYS", "NOW", "CARROTS", "CONTRACTS", "STROKES", "THISTLES",
        "what can be undone", "what was heard"};

    static final int[] edges = new int[Check.PROMISES + 1];
    static int passed;
    static int failed;

    private final DonkeysHour x = new DonkeysHour();
    private final String name;
    private int calls;
    private boolean holds = true;
    /** What was seen behind the latest step, if nothing was called since. */
    private List<String> seen;

    private Edge(String itsName) {
        name = itsName;
    }

    static void of(int promise, String sentence, String... steps) {
        Edge edge = new Edge("promise " + promise + ", \"" + sentence + "\": ");
        for (String some : steps) {
            for (String step : some.split(" \\| ")) {
                edge.go(step.trim());
            }
        }
        edge.due("calls of one object, more than " + MOST_CALLS, edge.calls > MOST_CALLS ? edge.calls : 0, 0);
        edges[promise]++;
        if (edge.holds) {
            passed++;
        } else {
            failed++;
        }
    }

    private void due(String what, Object got, Object is) {
        if (!got.equals(is)) {
            holds = false;
            System.out.println(name + what + " is " + got + ", due is " + is);
        }
    }

    private long call(String call, int... arguments) {
        calls++;
        try {
            return Calls.real(x, call, arguments);
        } catch (RuntimeException e) {
            due(call + Arrays.toString(arguments) + " throws", e.toString(), "NoSuchElementException at most");
            return 0;
        }
    }

    private void go(String step) {
        int many = step.indexOf("x ");
        if (many > 0 && step.substring(0, many).matches("\\d+")) {
            for (int i = 0; i < Integer.parseInt(step.substring(0, many)); i++) {
                go(step.substring(many + 2));
            }
            return;
        }
        int from = step.indexOf('\'');
        String rest = from < 0 ? step : step.substring(0, from) + step.substring(step.lastIndexOf('\'') + 1);
        if (from >= 0) {
            tell(step.substring(from + 1, step.lastIndexOf('\'')));
        }
        String[] words = rest.trim().split("\\s+");
        if (words[0].equals("rows")) {
            rows(words);
            return;
        }
        int end = 1;
        while (end < words.length && !words[end].matches("[=?~]")) {
            end++;
        }
        int[] arguments = new int[end - 1];
        for (int i = 1; i < end; i++) {
            arguments[i - 1] = Long.decode(words[i]).intValue();
        }
        String sign = end < words.length ? words[end] : "";
        if (!sign.equals("~") && !sign.equals("?")) {
            seen = null;
            long got = call(words[0], arguments);
            if (!sign.isEmpty()) {
                due(step, said(got), said(words[end + 1]));
            }
            return;
        }
        unchanged(step, words[0], arguments, said(words[end + 1]), sign.equals("?"));
    }

    private void unchanged(String step, String name, int[] arguments, String due, boolean butRow) {
        if (!name.equals("row")) {
            tellAnyRow();
        }
        List<String> before = look();
        boolean lent = !TELLERS.contains(name) && call("count", 9) == 0;
        if (lent) {
            call("sign", 0x6D346D34);
        }
        long signs = READERS.contains(name) ? 0 : call("count", 9);
        seen = null;
        due(step, said(call(name, arguments)), due);
        compare(step, before, butRow, signs);
        if (lent) {
            call("end", 0);
        }
    }

    /** A ROW that is empty could not be seen to be emptied. */
    private void tellAnyRow() {
        if (seen != null || call("count", 8) > 0) {
            return;
        }
        if (call("count", 0) > 0) {
            call("ahead", 0, 0);
        } else {
            call("mildest", 1);
        }
    }

    private static String said(long answer) {
        return answer == Calls.THROWN ? "thrown" : Long.toString(answer);
    }

    private static String said(String due) {
        return due.equals("!") ? "thrown" : due;
    }

    private void tell(String text) {
        long before = call("count", 9);
        for (int i = 0; i < text.length(); i += 4) {
            int v = 0;
            for (int j = i; j < i + 4; j++) {
                v = v << 8 | (j < text.length() ? text.charAt(j) : 0);
            }
            call("sign", v);
        }
        call("end", (int) before + text.length());
    }

    private List<String> row() {
        List<String> row = new ArrayList<>();
        long n = call("count", 8);
        for (int i = 0; i < n; i++) {
            row.add("" + call("row", i));
        }
        return row;
    }

    private void rows(String[] words) {
        due("the ROW", row(), Arrays.asList(words).subList(1, words.length));
    }

    /** All that can be seen without a question, the ROW first. */
    private List<String> look() {
        if (seen != null) {
            return seen;
        }
        List<String> all = new ArrayList<>();
        all.add("ROW " + row());
        for (int what = 0; what < FACTS.length; what++) {
            all.add(FACTS[what] + " " + call("count", what));
        }
        long donkeys = call("count", 0);
        for (int d = 0; d < donkeys; d++) {
            for (int what = 0; what < 7; what++) {
                all.add("DONKEY " + d + ", " + what + ": " + call("donkey", d, what));
            }
            long places = call("donkey", d, 4);
            for (int place = 0; place < places; place++) {
                all.add("PLACE " + place + " of " + d + ": " + call("thistles", d, place));
            }
            all.add("latest STROKE of " + d + ": " + call("struck", d, (int) call("donkey", d, 2)));
        }
        return all;
    }

    private void compare(String step, List<String> before, boolean butRow, long signs) {
        seen = null;
        List<String> after = look();
        int first = butRow ? 1 : 0;
        due(step + ": what is there", after.subList(first, after.size()), before.subList(first, before.size()));
        due(step + ": signs of THE TEXT", call("count", 9), signs);
        seen = after;
    }
}
