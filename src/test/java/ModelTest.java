import java.util.ArrayList;
import java.util.List;
import java.util.Random;

/** Runs of calls, the same ones always, of the class and of the model: each answer, and the ROW, must agree. */
final class ModelTest {
    /** An object is promised 512 calls; those that look at the ROW count, and one step makes six of them at most. */
    private static final int CALLS = 512 - 6;
    private static final String[] RULES = {
        "", "1", "2", "h/3", "1+c", "3-t", "p<4+f", "(h>4)+1+c*2", "f-h/2+1", "k/3+1-c", "m/7-m/8+1", "i+1",
        "4-h/2", "(t=0)*(f+1)", "--2-(c<0)*9", "0", "h-p+k*2/3", "999*999*999*h-f", "m<40", "5-m/9+c", "(h<3)*2",
        "((((f))))+(h=9)*3", "1/(p-2)+1", "-(h-5)/2", "(p>2)-c+1", "2-(f>h)", "h*h/9-(k=3)"
    };
    private static final String SIGNS = "0123456789:;hptfcmkis+-*/<>=()x ";
    private static final String[] TEXTS = {"stable", "flies", "rule", "day"};
    private static final String[] HEAVY = {"rests", "bribe", "bid", "span", "swarms", "mildest", "reading", "plant", "ways", "hungers"};

    private final Random random;
    private final DonkeysHour real = new DonkeysHour();
    private final Model model = new Model();
    private final StringBuilder calls = new StringBuilder();
    private int made;
    private boolean agreed = true;

    private ModelTest(long seed) {
        random = new Random(seed);
    }

    static void run() {
        Check.promise(Check.MODEL);
        int runs = Integer.getInteger("runs", 120);
        long first = Long.getLong("seed", 1);
        for (int i = 0; i < runs; i++) {
            ModelTest test = new ModelTest(first + i);
            test.go(i % 2 == 0 ? 2 : 0);
            Check.is("run " + (first + i), test.agreed, true);
        }
    }

    private int upTo(int n) {
        return random.nextInt(n);
    }

    private boolean call(String name, int... a) {
        if (made >= CALLS || !agreed) {
            return false;
        }
        made++;
        List<Integer> rowBefore = new ArrayList<>(model.row);
        long got = Calls.real(real, name, a);
        long due = Calls.model(model, name, a);
        calls.append(name).append(java.util.Arrays.toString(a)).append(" -> ").append(due).append('\n');
        if (got != due) {
            agreed = false;
            System.out.println(calls + "but answered " + got);
        }
        if (agreed && (upTo(4) == 0 || !rowBefore.equals(model.row))) {
            compareRows();
        }
        return agreed;
    }

    private void compareRows() {
        int numbers = model.row.size();
        made += 1 + numbers;
        int got = real.count(8);
        agreed = got == numbers;
        if (!agreed) {
            System.out.println(calls + "but count(8) " + got + ", due " + numbers);
        }
        for (int i = 0; i < numbers && agreed; i++) {
            int number = real.row(i);
            if (number != model.row.get(i)) {
                agreed = false;
                System.out.println(calls + "but row(" + i + ") " + number + ", due " + model.row.get(i));
            }
        }
    }

    private void text(String s) {
        for (int i = 0; i < s.length(); i += 4) {
            int v = 0;
            for (int j = i; j < i + 4; j++) {
                v = v << 8 | (j < s.length() ? s.charAt(j) : upTo(256));
            }
            call("sign", v);
        }
        call("end", s.length());
    }

    private String digits(int n) {
        StringBuilder s = new StringBuilder();
        int few = 1 + upTo(10);
        for (int i = 0; i < n; i++) {
            s.append((char) ('0' + (upTo(3) == 0 ? upTo(few) : 0)));
        }
        return s.toString();
    }

    private String line() {
        return upTo(10) + ":" + digits(upTo(8) == 0 ? upTo(15) : 4 + upTo(9));
    }

    private String randomRule(int depth) {
        StringBuilder s = new StringBuilder();
        int things = 1 + upTo(3);
        for (int i = 0; i < things; i++) {
            s.append(i == 0 ? "" : "+-*/<=>".substring(upTo(7)).substring(0, 1));
            s.append(upTo(5) == 0 ? "-" : "");
            int kind = upTo(8);
            s.append(kind == 0 && depth < 5 ? "(" + randomRule(depth + 1) + ")"
                : kind < 4 ? "" + upTo(upTo(6) == 0 ? 1200 : 6) : "hptfcmki".substring(upTo(8)).substring(0, 1));
        }
        return s.toString();
    }

    private String act() {
        switch (upTo(4)) {
            case 0: return "m" + upTo(upTo(5) == 0 ? 700 : 30);
            case 1: return "c" + upTo(3) + (upTo(2) == 0 ? "+" : "-") + upTo(30);
            case 2: return "s" + upTo(3) + upTo(8) + "=" + upTo(10);
            default: return "h" + upTo(3) + "=" + upTo(10);
        }
    }

    private String joined(int n, boolean acts) {
        StringBuilder s = new StringBuilder();
        for (int i = 0; i < n; i++) {
            s.append(i == 0 ? "" : ";").append(acts ? act() : line());
        }
        return s.toString();
    }

    private String blurred(String s, int oneIn) {
        if (upTo(oneIn) != 0) {
            return s;
        }
        int at = upTo(s.length() + 1);
        char c = SIGNS.charAt(upTo(SIGNS.length()));
        String end = s.substring(Math.min(s.length(), at + upTo(2)));
        return s.substring(0, at) + (upTo(3) == 0 ? "" : "" + c) + end;
    }

    private void textCall(String name, int wrongOneIn) {
        String s;
        switch (name) {
            case "stable":
                s = joined(1 + upTo(upTo(6) == 0 ? 6 : 2), false);
                break;
            case "flies":
                s = digits(upTo(6) == 0 ? upTo(60) : upTo(12));
                break;
            case "rule":
                s = upTo(2) == 0 ? RULES[upTo(RULES.length)] : randomRule(0);
                break;
            default:
                s = joined(upTo(upTo(5) == 0 ? 14 : 5), true);
                break;
        }
        s = blurred(s, wrongOneIn);
        text(s.length() > 80 ? s.substring(0, 80) : s);
        call(name);
    }

    /** What each call takes: d a DONKEY, h 1 or -1, c a CONTRACT, else the most from 0 on. */
    private static String takes(String name) {
        switch (name) {
            case "donkey": return "d 6";
            case "thistles": return "d 12";
            case "sow": return "d 12 9";
            case "set": return "d 1 11";
            case "sheet": return "3 12 300 300";
            case "minutes": return "100";
            case "ahead": case "eats": return "d 600";
            case "when": case "span": return "d 60";
            case "strikes": return "d 11";
            case "stops": case "longest": case "hungers": case "ways": return "d";
            case "owe": return "5 5 99 d 11";
            case "due": return "c 3 600";
            case "owes": return "5 3 600";
            case "reading": return "5 600";
            case "mildest": return "600";
            case "leave": return "d 600 99";
            case "sure": return "d 600 99 10";
            case "missed": return "d 120 12 99";
            case "bribe": return "d 20 h";
            case "rests": return "d 10 20";
            case "bid": return "d h 40";
            case "apart": case "join": return "d d 600";
            case "together": return "d d";
            case "shows": return "d d 60";
            case "egg": return "d 12 600";
            case "plant": return "d 9 60";
            case "keep": case "again": return "1";
            case "count": return "9";
            default: return "3 3 3 3";
        }
    }

    private int fitting(String kind) {
        switch (kind) {
            case "d": return upTo(Math.max(1, model.w.donkeys.size()));
            case "h": return 1 - 2 * upTo(2);
            case "c": return upTo(Math.max(1, model.contracts.size()));
            default:
                int most = Integer.parseInt(kind);
                return upTo(3) == 0 ? upTo(Math.min(most, 12) + 1) : upTo(most + 1);
        }
    }

    private int wild() {
        return upTo(3) == 0 ? random.nextInt()
            : new int[] {-1, 0, 3, 4, 5, 6, 7, 9, 10, 11, 12, 13, 20, 21, 60, 61, 99, 100, 120, 121, 600, 601}[upTo(22)];
    }

    private boolean isHeavy(String name) {
        for (String heavy : HEAVY) {
            if (heavy.equals(name)) {
                return true;
            }
        }
        return false;
    }

    private void anyCall() {
        String name = Calls.NAMES[upTo(Calls.NAMES.length)];
        for (String told : TEXTS) {
            if (told.equals(name)) {
                textCall(name, 4);
                return;
            }
        }
        boolean wipes = name.equals("tear") || name.equals("forget") || name.equals("end") || name.equals("again");
        if (isHeavy(name) && upTo(3) != 0 || wipes && upTo(8) != 0) {
            name = upTo(2) == 0 ? "minutes" : "owe";
        }
        String[] kinds = takes(name).split(" ");
        int[] a = new int[Calls.arguments(name)];
        for (int i = 0; i < a.length; i++) {
            a[i] = upTo(14) == 0 ? wild() : fitting(kinds[i]);
        }
        if (name.equals("heard")) {
            a[0] = fitting("d");
            a[2] = upTo(40) + upTo(3) * upTo(300);
            a[1] = model.is(a[0]) && upTo(8) != 0 ? Model.strikes(model.w, a[0], a[2]).size() : upTo(70);
        }
        if (name.equals("carrot") && upTo(6) != 0) {
            a = new int[] {a[0], model.w.now + upTo(20), model.w.now + 10 + upTo(30), 1 - 2 * upTo(2)};
        }
        if ((name.equals("struck") || name.equals("took")) && model.is(a[0])) {
            a[1] = upTo(9) != 0 ? model.w.donkeys.get(a[0]).strokes.size() - upTo(45) : a[1];
        }
        call(name, a);
    }

    private void go(int donkeysFirst) {
        if (donkeysFirst > 0) {
            textCall("stable", 99);
            textCall("flies", 99);
            textCall("rule", 99);
        }
        while (made < CALLS && agreed) {
            anyCall();
        }
    }
}
