import java.util.ArrayList;
import java.util.Collections;
import java.util.List;
import java.util.NoSuchElementException;
import java.util.regex.Matcher;
import java.util.regex.Pattern;

/**
 * A second reading of the document, as plain and as unlike the class as can be: texts by regular
 * expressions, THE RULE by splitting its text, each question by going on in a copy of everything.
 */
final class Model {
    static final class Donkey {
        int hunger;
        int place;
        int[] thistles;
        List<Integer> strokes = new ArrayList<>();

        Donkey copy() {
            Donkey d = new Donkey();
            d.hunger = hunger;
            d.place = place;
            d.thistles = thistles.clone();
            d.strokes = new ArrayList<>(strokes);
            return d;
        }
    }

    static final class World {
        int now;
        List<Donkey> donkeys = new ArrayList<>();
        List<int[]> carrots = new ArrayList<>();
        String flies = "";
        String rule = "";

        World copy() {
            World w = new World();
            w.now = now;
            w.flies = flies;
            w.rule = rule;
            for (Donkey d : donkeys) {
                w.donkeys.add(d.copy());
            }
            for (int[] c : carrots) {
                w.carrots.add(c.clone());
            }
            return w;
        }
    }

    static final int NEVER = Integer.MAX_VALUE;
    static final Pattern LINES = Pattern.compile("\\d:\\d{4,12}(;\\d:\\d{4,12})*");
    static final Pattern FLIES = Pattern.compile("\\d+");
    static final Pattern ACTS;
    static final Pattern RULE = Pattern.compile(expression(0));

    static {
        String act = "(m\\d{1,3}|c\\d[+-]\\d{1,2}|s\\d\\d{1,2}=\\d|h\\d=\\d)";
        ACTS = Pattern.compile(act + "(;" + act + ")*");
    }

    World w = new World();
    List<Integer> text = new ArrayList<>();
    List<Integer> row = new ArrayList<>();
    List<int[]> contracts = new ArrayList<>();
    List<int[]> heard = new ArrayList<>();
    List<World> undo = new ArrayList<>();
    List<Boolean> undoDay = new ArrayList<>();
    World[] kept = new World[2];

    static String expression(int depth) {
        String thing = "(\\d{1,3}|[hptfcmki]" + (depth < 4 ? "|\\(" + expression(depth + 1) + "\\)" : "") + ")";
        String chain = "-*" + thing + "([-+*/]-*" + thing + ")*";
        return chain + "([<>=]" + chain + ")?";
    }

    // ---- texts

    private String taken() {
        StringBuilder s = new StringBuilder();
        for (int c : text) {
            s.append((char) c);
        }
        text.clear();
        return s.toString();
    }

    /** Where a text is wrong, or -1: the longest beginning that can go on or end is looked for. */
    static int wrongAt(Pattern p, String s, int most) {
        for (int n = 1; n <= Math.min(s.length(), most); n++) {
            Matcher m = p.matcher(s.substring(0, n));
            if (!m.matches() && !m.hitEnd()) {
                return n - 1;
            }
        }
        if (s.length() > most) {
            return most;
        }
        return s.isEmpty() || p.matcher(s).matches() ? -1 : s.length();
    }

    int sign(int v) {
        if (text.size() > 76) {
            return -1;
        }
        for (int i = 3; i >= 0; i--) {
            text.add(v >> (8 * i) & 255);
        }
        return text.size();
    }

    boolean end(int n) {
        if (n < 0 || n > text.size()) {
            return false;
        }
        text = new ArrayList<>(text.subList(0, n));
        return true;
    }

    int stable() {
        String s = taken();
        if (s.isEmpty()) {
            return 0;
        }
        int wrong = wrongAt(LINES, s, 76);
        int room = 3 - w.donkeys.size();
        int at = 0;
        for (int line = 0; at <= s.length() && at >= 0; line++) {
            if (line >= room && (wrong < 0 || at < wrong)) {
                return -1 - at;
            }
            at = s.indexOf(';', at) + 1;
            if (at == 0) {
                break;
            }
        }
        if (wrong >= 0) {
            return -1 - wrong;
        }
        String[] lines = s.split(";");
        for (String line : lines) {
            Donkey d = new Donkey();
            d.hunger = line.charAt(0) - '0';
            d.thistles = new int[line.length() - 2];
            for (int i = 2; i < line.length(); i++) {
                d.thistles[i - 2] = line.charAt(i) - '0';
            }
            w.donkeys.add(d);
        }
        undo.clear();
        undoDay.clear();
        return lines.length;
    }

    int flies() {
        String s = taken();
        int wrong = wrongAt(FLIES, s, 40);
        if (wrong >= 0) {
            return -1 - wrong;
        }
        w.flies = s;
        return s.length();
    }

    int rule() {
        String s = taken();
        int wrong = wrongAt(RULE, s, 40);
        if (wrong >= 0) {
            return -1 - wrong;
        }
        w.rule = s;
        return 0;
    }

    // ---- pace, minutes

    static int split(String s, String operators) {
        int depth = 0;
        for (int i = s.length() - 1; i > 0; i--) {
            char c = s.charAt(i);
            depth += c == ')' ? 1 : c == '(' ? -1 : 0;
            char before = s.charAt(i - 1);
            boolean binary = before == ')' || Character.isLetterOrDigit(before);
            if (depth == 0 && binary && operators.indexOf(c) >= 0) {
                return i;
            }
        }
        return -1;
    }

    static int evaluate(String s, int[] things) {
        for (String operators : new String[] {"<>=", "+-", "*/"}) {
            int i = split(s, operators);
            if (i > 0) {
                int a = evaluate(s.substring(0, i), things);
                int b = evaluate(s.substring(i + 1), things);
                switch (s.charAt(i)) {
                    case '<': return a < b ? 1 : 0;
                    case '>': return a > b ? 1 : 0;
                    case '=': return a == b ? 1 : 0;
                    case '+': return a + b;
                    case '-': return a - b;
                    case '*': return a * b;
                    default: return b == 0 ? 0 : a / b;
                }
            }
        }
        char c = s.charAt(0);
        if (c == '-') {
            return -evaluate(s.substring(1), things);
        }
        if (c == '(') {
            return evaluate(s.substring(1, s.length() - 1), things);
        }
        return c >= '0' && c <= '9' ? Integer.parseInt(s) : things["hptfcmki".indexOf(c)];
    }

    static int pace(World w, int i) {
        if (w.rule.isEmpty()) {
            return 1;
        }
        Donkey d = w.donkeys.get(i);
        int fly = w.flies.isEmpty() ? 0 : w.flies.charAt(w.now % w.flies.length()) - '0';
        int pull = 0;
        for (int[] c : w.carrots) {
            if (c[0] == i && w.now >= c[1] && w.now <= c[2]) {
                pull += c[3];
            }
        }
        int[] things = {d.hunger, d.place, d.thistles[d.place], fly, pull, w.now, d.strokes.size() % 12, i};
        int v = evaluate(w.rule, things);
        return v < 0 ? 0 : v > 4 ? 4 : v;
    }

    /** One MINUTE: of each DONKEY its PACE, and the PLACE where it ate or -1. */
    static int[][] tick(World w) {
        int[][] did = new int[w.donkeys.size()][];
        for (int i = 0; i < did.length; i++) {
            did[i] = new int[] {pace(w, i), -1};
            Donkey d = w.donkeys.get(i);
            for (int left = did[i][0]; left > 0; left--) {
                d.place = (d.place + 1) % d.thistles.length;
                if (d.place == 0) {
                    d.strokes.add(w.now);
                    d.hunger = d.hunger == 9 ? 9 : d.hunger + 1;
                }
                if (d.thistles[d.place] != 0) {
                    d.thistles[d.place]--;
                    d.hunger = d.hunger < 2 ? 0 : d.hunger - 2;
                    did[i][1] = d.place;
                    break;
                }
            }
        }
        w.now++;
        return did;
    }

    /** MINUTES, counted from now, in which a DONKEY strikes in the next n ones. */
    static List<Integer> strikes(World from, int d, int n) {
        World w = from.copy();
        List<Integer> in = new ArrayList<>();
        for (int m = 0; m < n; m++) {
            int before = w.donkeys.get(d).strokes.size();
            tick(w);
            if (w.donkeys.get(d).strokes.size() > before) {
                in.add(m);
            }
        }
        return in;
    }

    /** A copy with that DONKEY alone; the others stand still without changing who it is. */
    World alone(int d) {
        World c = w.copy();
        for (int i = 0; i < c.donkeys.size(); i++) {
            if (i != d) {
                c.donkeys.get(i).strokes = new ArrayList<>();
            }
        }
        return c;
    }

    boolean is(int d) {
        return d >= 0 && d < w.donkeys.size();
    }

    static boolean in(int v, int least, int most) {
        return v >= least && v <= most;
    }

    private void tell(int... v) {
        row.clear();
        for (int i : v) {
            row.add(i);
        }
    }

    int strokesOfAll() {
        int sum = 0;
        for (Donkey d : w.donkeys) {
            sum += d.strokes.size();
        }
        return sum;
    }

    int thistlesOf(Donkey d) {
        int sum = 0;
        for (int t : d.thistles) {
            sum += t;
        }
        return sum;
    }

    int donkey(int d, int what) {
        if (!is(d) || !in(what, 0, 6)) {
            throw new NoSuchElementException();
        }
        Donkey x = w.donkeys.get(d);
        int[] all = {x.hunger, x.place, x.strokes.size(), x.strokes.size() % 12, x.thistles.length, thistlesOf(x), 0};
        return what == 6 ? pace(w, d) : all[what];
    }

    int thistles(int d, int place) {
        return is(d) && in(place, 0, w.donkeys.get(d).thistles.length - 1) ? w.donkeys.get(d).thistles[place] : -1;
    }

    int sow(int d, int place, int v) {
        int were = thistles(d, place);
        if (were < 0 || !in(v, 0, 9)) {
            return -1;
        }
        w.donkeys.get(d).thistles[place] = v;
        return were;
    }

    int set(int d, int what, int v) {
        if (!is(d) || !in(what, 0, 1)) {
            return -1;
        }
        Donkey x = w.donkeys.get(d);
        int was = what == 0 ? x.hunger : x.place;
        if (!in(v, 0, what == 0 ? 9 : x.thistles.length - 1)) {
            return -1;
        }
        if (what == 0) {
            x.hunger = v;
        } else {
            x.place = v;
        }
        return was;
    }

    int sheet(int kind, int n, int f, int step) {
        if (!in(kind, 0, 3) || n > 12 || w.donkeys.isEmpty()) {
            return -1;
        }
        if (n < 0 && kind != 3) {
            return -2;
        }
        int[] t = w.donkeys.get(0).thistles;
        int sum = 0;
        for (int i = 0; i < t.length; i++) {
            int v = f + i * step;
            v = kind == 0 ? (byte) v : kind == 1 ? (short) v : v;
            t[i] = kind == 3 || i >= n ? 0 : v < 0 ? 0 : v > 9 ? 9 : v;
            sum += t[i];
        }
        return kind == 3 ? -3 : sum;
    }

    int carrot(int d, int from, int to, int how) {
        if (!is(d) || !in(from, 0, 9999) || !in(to, from, 9999) || (how != 1 && how != -1)) {
            return -1;
        }
        if (w.carrots.size() == 10) {
            return -2;
        }
        w.carrots.add(new int[] {d, from, to, how});
        return w.carrots.size() - 1;
    }

    int eat() {
        if (w.carrots.isEmpty()) {
            return -1;
        }
        w.carrots.remove(w.carrots.size() - 1);
        return w.carrots.size();
    }

    private void remember(World before, boolean day) {
        undo.add(before);
        undoDay.add(day);
        if (undo.size() > 10) {
            undo.remove(0);
            undoDay.remove(0);
        }
    }

    int minute() {
        remember(w.copy(), false);
        int before = strokesOfAll();
        int ate = 0;
        int stood = 0;
        int[][] did = tick(w);
        for (int i = 0; i < did.length; i++) {
            ate += did[i][1] >= 0 ? 1 << i : 0;
            stood += did[i][0] == 0 ? 1 << i : 0;
        }
        tell(ate, stood);
        return strokesOfAll() - before;
    }

    int minutes(int n) {
        if (!in(n, 0, 600)) {
            return -1;
        }
        World was = w.copy();
        int before = strokesOfAll();
        int eaten = 0;
        for (int m = 0; m < n; m++) {
            for (int[] did : tick(w)) {
                eaten += did[1] >= 0 ? 1 : 0;
            }
        }
        tell(eaten);
        for (int i = 0; i < w.donkeys.size(); i++) {
            row.add(w.donkeys.get(i).strokes.size() - was.donkeys.get(i).strokes.size());
        }
        if (n > 0) {
            remember(was, false);
        }
        return strokesOfAll() - before;
    }

    int day() {
        String s = taken();
        int wrong = wrongAt(ACTS, s, 60);
        if (wrong >= 0) {
            return -1 - wrong;
        }
        World was = w.copy();
        int before = strokesOfAll();
        int done = 0;
        int failed = 0;
        for (String act : s.isEmpty() ? new String[0] : s.split(";")) {
            if (!does(act)) {
                failed = 1;
                break;
            }
            done++;
        }
        if (done > 0) {
            remember(was, true);
        }
        tell(failed, strokesOfAll() - before);
        return done;
    }

    private boolean does(String act) {
        if (act.charAt(0) == 'm') {
            int n = Integer.parseInt(act.substring(1));
            for (int m = 0; m < n && n <= 600; m++) {
                tick(w);
            }
            return n <= 600;
        }
        int d = act.charAt(1) - '0';
        if (act.charAt(0) == 'c') {
            int n = Integer.parseInt(act.substring(3));
            return n > 0 && carrot(d, w.now, w.now + n - 1, act.charAt(2) == '+' ? 1 : -1) >= 0;
        }
        int v = act.charAt(act.length() - 1) - '0';
        if (act.charAt(0) == 's') {
            return sow(d, Integer.parseInt(act.substring(2, act.length() - 2)), v) >= 0;
        }
        return set(d, 0, v) >= 0;
    }

    int undo() {
        if (undo.isEmpty()) {
            return -1;
        }
        World was = undo.remove(undo.size() - 1);
        if (!undoDay.remove(undoDay.size() - 1)) {
            was.carrots = w.carrots;
        }
        was.rule = w.rule;
        was.flies = w.flies;
        w = was;
        return undo.size();
    }

    int struck(int d, int n) {
        if (!is(d) || n < 1) {
            return -1;
        }
        List<Integer> all = w.donkeys.get(d).strokes;
        return n > all.size() ? -2 : all.size() - n >= 40 ? -3 : all.get(n - 1);
    }

    int took(int d, int n) {
        int a = struck(d, n);
        int b = n == Integer.MAX_VALUE ? -2 : struck(d, n + 1);
        if (a == -1) {
            return -1;
        }
        return a == -3 || b == -3 ? -3 : a == -2 || b == -2 ? -2 : b - a;
    }

    int longest(int d) {
        if (!is(d)) {
            return -1;
        }
        int longest = -1;
        int shortest = -1;
        for (int n = 1; n < w.donkeys.get(d).strokes.size(); n++) {
            int t = took(d, n);
            if (t >= 0) {
                longest = longest < 0 || t > took(d, longest) ? n : longest;
                shortest = shortest < 0 || t < took(d, shortest) ? n : shortest;
            }
        }
        if (longest < 0) {
            return -2;
        }
        tell(took(d, longest), shortest, took(d, shortest));
        return longest;
    }

    // ---- to come

    int ahead(int d, int n) {
        if (!is(d) || !in(n, 0, 600)) {
            return -1;
        }
        World c = w.copy();
        for (int m = 0; m < n; m++) {
            tick(c);
        }
        tell(c.donkeys.get(d).place, c.donkeys.get(d).hunger);
        return c.donkeys.get(d).strokes.size() - w.donkeys.get(d).strokes.size();
    }

    static int whenIn(World c, int d, int k) {
        List<Integer> in = strikes(c, d, 600);
        return k <= in.size() ? in.get(k - 1) + 1 : NEVER;
    }

    int when(int d, int k) {
        if (!is(d) || !in(k, 1, 60)) {
            return -1;
        }
        int v = whenIn(w, d, k);
        return v == NEVER ? -2 : v;
    }

    int strikes(int d, int hour) {
        if (!is(d) || !in(hour, 0, 11)) {
            return -1;
        }
        List<Integer> in = strikes(w, d, 600);
        for (int j = 0; j < in.size(); j++) {
            if ((w.donkeys.get(d).strokes.size() + j + 1) % 12 == hour) {
                tell(j + 1);
                return in.get(j) + 1;
            }
        }
        return -2;
    }

    int stops(int d) {
        if (!is(d)) {
            return -1;
        }
        World c = w.copy();
        int after = 0;
        for (int m = 0; m < 600; m++) {
            after = tick(c)[d][0] != 0 ? m + 1 : after;
        }
        return after == 600 ? -2 : after;
    }

    int eats(int d, int n) {
        if (!is(d) || !in(n, 0, 600)) {
            return -1;
        }
        World c = w.copy();
        int[] at = new int[12];
        int all = 0;
        for (int m = 0; m < n; m++) {
            int place = tick(c)[d][1];
            if (place >= 0) {
                at[place]++;
                all++;
            }
        }
        int best = 0;
        for (int p = 0; p < 12; p++) {
            best = at[p] > at[best] ? p : best;
        }
        tell(all == 0 ? -1 : best, at[best]);
        return all;
    }

    // ---- contracts

    int owe(int from, int to, int frogs, int d, int hour) {
        if (!in(from, 0, 5) || !in(to, 0, 5) || from == to || !in(frogs, 1, 99) || !is(d) || !in(hour, 0, 11)) {
            return -1;
        }
        if (contracts.size() > 9) {
            return -2;
        }
        contracts.add(new int[] {from, to, frogs, d, hour});
        return contracts.size() - 1;
    }

    int tear() {
        int n = contracts.size();
        contracts.clear();
        return n;
    }

    /** All MINUTES in which a CONTRACT is due. */
    private List<Integer> dueIn(int[] c, int law, int n) {
        List<Integer> at = new ArrayList<>();
        int k = w.donkeys.get(c[3]).strokes.size();
        for (int m : strikes(w, c[3], n)) {
            k++;
            if (k % 12 == c[4]) {
                at.add(m);
            }
        }
        if (law == 2 || at.isEmpty()) {
            return at;
        }
        if (law == 3) {
            return at.size() > 1 ? new ArrayList<>() : at;
        }
        return Collections.singletonList(law == 0 ? at.get(0) : at.get(at.size() - 1));
    }

    int due(int contract, int law, int n) {
        if (!in(contract, 0, contracts.size() - 1) || !in(law, 0, 3) || !in(n, 1, 600)) {
            return -1;
        }
        List<Integer> at = dueIn(contracts.get(contract), law, n);
        return at.isEmpty() ? -2 : at.get(0);
    }

    private int sum(int person, int side, int law, int n) {
        int sum = 0;
        for (int[] c : contracts) {
            sum += c[side] == person ? c[2] * dueIn(c, law, n).size() : 0;
        }
        return sum;
    }

    int owes(int person, int law, int n) {
        if (!in(person, 0, 5) || !in(law, 0, 3) || !in(n, 1, 600)) {
            return -1;
        }
        tell(sum(person, 1, law, n));
        return sum(person, 0, law, n);
    }

    int reading(int person, int n) {
        if (!in(person, 0, 5) || !in(n, 1, 600)) {
            return -1;
        }
        row.clear();
        for (int law = 0; law < 4; law++) {
            row.add(sum(person, 0, law, n) - sum(person, 1, law, n));
        }
        return row.indexOf(Collections.min(row));
    }

    int mildest(int n) {
        if (!in(n, 1, 600)) {
            return -1;
        }
        List<Integer> mosts = new ArrayList<>();
        for (int law = 0; law < 4; law++) {
            List<Integer> owed = new ArrayList<>();
            for (int person = 0; person < 6; person++) {
                owed.add(sum(person, 0, law, n) - sum(person, 1, law, n));
            }
            mosts.add(Collections.max(owed));
        }
        tell(Collections.min(mosts));
        return mosts.indexOf(Collections.min(mosts));
    }

    // ---- ferries

    private static int latest(World c, int d, int ferry, int way) {
        List<Integer> in = strikes(c, d, 600);
        for (int k = in.size(); k > 0; k--) {
            if (in.get(k - 1) + way + 1 <= ferry) {
                return k;
            }
        }
        return way <= ferry ? 0 : -2;
    }

    int leave(int d, int ferry, int way) {
        if (!is(d) || !in(ferry, 1, 600) || !in(way, 0, 99)) {
            return -1;
        }
        int k = latest(w, d, ferry, way);
        if (k >= 0) {
            tell(k == 0 ? ferry - way : ferry - way - 1 - strikes(w, d, 600).get(k - 1));
        }
        return k;
    }

    int sure(int d, int ferry, int way, int t) {
        if (!is(d) || !in(ferry, 1, 600) || !in(way, 0, 99) || !in(t, 1, 10)) {
            return -1;
        }
        int[] at = new int[10];
        for (int h = 0; h < 10; h++) {
            World c = w.copy();
            c.donkeys.get(d).hunger = h;
            at[h] = latest(c, d, ferry, way);
        }
        for (int k = 600; k >= 0; k--) {
            int meet = 0;
            for (int a : at) {
                meet += a >= k ? 1 : 0;
            }
            if (meet >= t) {
                tell(meet);
                return k;
            }
        }
        return -2;
    }

    int missed(int d, int each, int k, int way) {
        if (!is(d) || !in(each, 1, 120) || !in(k, 1, 12) || !in(way, 0, 99)) {
            return -1;
        }
        boolean[] taken = new boolean[601];
        List<Integer> in = strikes(w, d, 600);
        int none = 0;
        for (int j = k; j <= in.size(); j += k) {
            int ferry = -1;
            for (int f = each; f <= 600 && ferry < 0; f += each) {
                ferry = f >= in.get(j - 1) + way + 1 ? f : -1;
            }
            if (ferry < 0) {
                none++;
            } else {
                taken[ferry] = true;
            }
        }
        int nobody = 0;
        for (int f = each; f <= 600; f += each) {
            nobody += taken[f] ? 0 : 1;
        }
        tell(none);
        return nobody;
    }

    // ---- carrots

    private int hour(int d, int[]... thought) {
        World c = alone(d);
        Collections.addAll(c.carrots, thought);
        List<Integer> in = new ArrayList<>();
        int before = c.donkeys.get(d).strokes.size();
        for (int m = 0; m < 600 && in.size() < 2; m++) {
            tick(c);
            if (c.donkeys.get(d).strokes.size() > before + in.size()) {
                in.add(m);
            }
        }
        return in.size() < 2 ? 601 : in.get(1) - in.get(0);
    }

    private int[] thought(int d, int from, int n, int how) {
        return new int[] {d, w.now + from, w.now + from + n - 1, how};
    }

    int bribe(int d, int n, int how) {
        if (!is(d) || !in(n, 1, 20) || (how != 1 && how != -1)) {
            return -1;
        }
        List<Integer> hours = new ArrayList<>();
        for (int from = 0; from <= 60; from++) {
            hours.add(hour(d, thought(d, from, n, how)));
        }
        int best = how == 1 ? Collections.min(hours) : Collections.max(hours);
        tell(best, hour(d));
        return hours.indexOf(best);
    }

    int rests(int d, int n, int m) {
        if (!is(d) || !in(n, 1, 10) || !in(m, 0, 20)) {
            return -1;
        }
        int[] at = new int[2];
        int quiet = 0;
        int turn = 0;
        for (; turn < m && quiet < 2; turn++) {
            int boy = turn % 2;
            List<Integer> hours = new ArrayList<>();
            for (int from = 0; from <= 30; from++) {
                int a = boy == 0 ? from : at[0];
                int b = boy == 1 ? from : at[1];
                hours.add(hour(d, thought(d, a, n, -1), thought(d, b, n, 1)));
            }
            int best = boy == 0 ? Collections.max(hours) : Collections.min(hours);
            int to = hours.get(at[boy]) == best ? at[boy] : hours.indexOf(best);
            quiet = to == at[boy] ? quiet + 1 : 0;
            at[boy] = to;
        }
        tell(quiet == 2 ? 1 : 0, at[0], at[1], hour(d, thought(d, at[0], n, -1), thought(d, at[1], n, 1)));
        return turn;
    }

    int bid(int d, int how, int v) {
        if (!is(d) || !in(v, 1, 600) || (how != 1 && how != -1)) {
            return -1;
        }
        for (int n = 0; n <= 60; n++) {
            World c = w.copy();
            c.carrots.add(thought(d, 0, n, how));
            int after = whenIn(c, d, 1);
            if (how == 1 ? after <= v : after >= v) {
                return n;
            }
        }
        return -2;
    }

    // ---- heard

    int heard(int d, int n, int within) {
        if (!is(d) || !in(n, 0, 60) || !in(within, 1, 600) || heard.size() > 7) {
            return -1;
        }
        heard.add(new int[] {d, n, within});
        return heard.size();
    }

    int forget() {
        int n = heard.size();
        heard.clear();
        return n;
    }

    private boolean wouldBe(World c, int d) {
        for (int[] f : heard) {
            if (f[0] == d && strikes(c, d, f[2]).size() != f[1]) {
                return false;
            }
        }
        return true;
    }

    private World with(int d, int hunger, int place) {
        World c = w.copy();
        c.donkeys.get(d).hunger = hunger;
        c.donkeys.get(d).place = place;
        return c;
    }

    int hungers(int d) {
        if (!is(d)) {
            return -1;
        }
        Donkey x = w.donkeys.get(d);
        int bits = 0;
        int places = 0;
        for (int h = 0; h < 10; h++) {
            bits += wouldBe(with(d, h, x.place), d) ? 1 << h : 0;
        }
        for (int p = 0; p < x.thistles.length; p++) {
            places += wouldBe(with(d, x.hunger, p), d) ? 1 << p : 0;
        }
        tell(places);
        return bits;
    }

    private List<int[]> allWays(int d) {
        List<int[]> all = new ArrayList<>();
        for (int h = 0; h < 10; h++) {
            for (int p = 0; p < w.donkeys.get(d).thistles.length; p++) {
                if (wouldBe(with(d, h, p), d)) {
                    all.add(new int[] {h, p});
                }
            }
        }
        return all;
    }

    int ways(int d) {
        if (!is(d)) {
            return -1;
        }
        List<int[]> all = allWays(d);
        tell(all.isEmpty() ? new int[0] : all.get(0));
        return all.size();
    }

    int swarms() {
        int bits = 0;
        for (int f = 0; f < 10; f++) {
            World c = w.copy();
            c.flies = String.valueOf(f);
            boolean so = true;
            for (int d = 0; d < w.donkeys.size(); d++) {
                so &= wouldBe(c, d);
            }
            bits += so ? 1 << f : 0;
        }
        return bits;
    }

    int span(int d, int k) {
        if (!is(d) || !in(k, 1, 60)) {
            return -1;
        }
        List<Integer> comes = new ArrayList<>();
        for (int[] way : allWays(d)) {
            int after = whenIn(with(d, way[0], way[1]), d, k);
            if (after != NEVER) {
                comes.add(after);
            }
        }
        if (comes.isEmpty()) {
            return -2;
        }
        tell(Collections.max(comes), comes.size());
        return Collections.min(comes);
    }

    // ---- two

    private boolean two(int a, int b) {
        return is(a) && is(b) && a != b;
    }

    int apart(int a, int b, int n) {
        if (!two(a, b) || !in(n, 0, 600)) {
            throw new NoSuchElementException();
        }
        World c = w.copy();
        for (int m = 0; m < n; m++) {
            tick(c);
        }
        return c.donkeys.get(a).strokes.size() - c.donkeys.get(b).strokes.size();
    }

    int together(int a, int b) {
        if (!two(a, b)) {
            return -1;
        }
        List<Integer> both = strikes(w, a, 600);
        both.retainAll(strikes(w, b, 600));
        return both.isEmpty() ? -2 : both.get(0) + 1;
    }

    int join(int a, int b, int n) {
        if (!two(a, b) || !in(n, 1, 600)) {
            return -1;
        }
        List<Integer> same = new ArrayList<>(Collections.nCopies(12, 0));
        World c = w.copy();
        for (int m = 0; m < n; m++) {
            tick(c);
            for (int shift = 0; shift < 12; shift++) {
                if (c.donkeys.get(a).strokes.size() % 12 == (c.donkeys.get(b).strokes.size() + shift) % 12) {
                    same.set(shift, same.get(shift) + 1);
                }
            }
        }
        int most = Collections.max(same);
        tell(same.indexOf(most), most);
        return same.get(0);
    }

    int shows(int a, int b, int k) {
        if (!two(a, b) || !in(k, 1, 60)) {
            return -1;
        }
        World c = w.copy();
        int till = c.donkeys.get(b).strokes.size() + k;
        for (int m = 0; m < 600; m++) {
            tick(c);
            if (c.donkeys.get(b).strokes.size() == till) {
                return c.donkeys.get(a).strokes.size() % 12;
            }
        }
        return -2;
    }

    // ---- eggs, noon

    int egg(int d, int k, int v) {
        if (!is(d) || !in(k, 1, 12) || !in(v, 1, 600)) {
            return -1;
        }
        List<Integer> in = strikes(w, d, 600);
        if (in.size() <= k) {
            return -2;
        }
        int best = 0;
        for (int j = 12; j > 0; j--) {
            if (j < in.size()) {
                int off = Math.abs(in.get(j) - in.get(0) - v);
                best = best == 0 || off <= Math.abs(in.get(best) - in.get(0) - v) ? j : best;
            }
        }
        tell(best, in.get(best) - in.get(0));
        return in.get(k) - in.get(0);
    }

    int plant(int d, int n, int k) {
        if (!is(d) || !in(n, 1, 9) || !in(k, 1, 60)) {
            return -1;
        }
        List<Integer> late = new ArrayList<>();
        for (int p = 0; p < w.donkeys.get(d).thistles.length; p++) {
            World c = w.copy();
            int[] t = c.donkeys.get(d).thistles;
            t[p] = t[p] + n > 9 ? 9 : t[p] + n;
            late.add(whenIn(c, d, k));
        }
        int most = Collections.max(late);
        tell(most == NEVER ? -1 : most);
        return late.indexOf(most);
    }

    // ---- kept

    boolean keep(int i) {
        if (!in(i, 0, 1)) {
            return false;
        }
        kept[i] = w.copy();
        return true;
    }

    boolean again(int i) {
        if (!in(i, 0, 1) || kept[i] == null || kept[i].donkeys.size() != w.donkeys.size()) {
            return false;
        }
        World c = kept[i].copy();
        c.flies = w.flies;
        c.rule = w.rule;
        w = c;
        undo.clear();
        undoDay.clear();
        return true;
    }

    int count(int what) {
        int thistles = 0;
        for (Donkey d : w.donkeys) {
            thistles += thistlesOf(d);
        }
        int[] all = {w.donkeys.size(), w.now, w.carrots.size(), contracts.size(), strokesOfAll(), thistles,
            undo.size(), heard.size(), row.size(), text.size()};
        return in(what, 0, 9) ? all[what] : -1;
    }

    int row(int i) {
        if (!in(i, 0, row.size() - 1)) {
            throw new NoSuchElementException();
        }
        return row.get(i);
    }
}
