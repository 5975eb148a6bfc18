import java.util.NoSuchElementException;

/** Counts the checks of each promise, and prints those that fail. */
final class Check {
    static final int PROMISES = 53;
    static final int MODEL = 54;
    static final int LANGUAGE = 55;
    static final int README = 56;
    static final int ALL = 57;
    static final int[] checks = new int[ALL];
    static final int[] wrong = new int[ALL];
    private static int promise;

    interface Call {
        long go();
    }

    private Check() {
    }

    static void promise(int p) {
        promise = p;
    }

    private static String label() {
        switch (promise) {
            case MODEL: return "the model";
            case LANGUAGE: return "LANGUAGE.md";
            case README: return "README.md";
            default: return "promise " + promise;
        }
    }

    static void is(String what, long got, long due) {
        checks[promise]++;
        if (got != due) {
            wrong[promise]++;
            System.out.println(label() + ": " + what + " is " + got + ", due is " + due);
        }
    }

    static void is(String what, boolean got, boolean due) {
        is(what, got ? 1 : 0, due ? 1 : 0);
    }

    static void missing(String what, Call call) {
        checks[promise]++;
        String got = "nothing thrown";
        try {
            call.go();
        } catch (NoSuchElementException e) {
            return;
        } catch (RuntimeException e) {
            got = e.toString();
        }
        wrong[promise]++;
        System.out.println(label() + ": " + what + ": " + got + ", due is NoSuchElementException");
    }

    /** The ROW has these numbers and no others. */
    static void row(String what, DonkeysHour x, long... due) {
        is(what + ", numbers of the row", x.count(8), due.length);
        for (int i = 0; i < due.length && i < x.count(8); i++) {
            is(what + ", row " + i, x.row(i), due[i]);
        }
    }

    /** Behind what stands in THE TEXT. */
    static void tell(DonkeysHour x, String s) {
        int before = x.count(9);
        for (int i = 0; i < s.length(); i += 4) {
            int v = 0;
            for (int j = i; j < i + 4; j++) {
                v = v << 8 | (j < s.length() ? s.charAt(j) : 0);
            }
            x.sign(v);
        }
        x.end(before + s.length());
    }

    static int stable(DonkeysHour x, String s) {
        tell(x, s);
        return x.stable();
    }

    static int flies(DonkeysHour x, String s) {
        tell(x, s);
        return x.flies();
    }

    static int rule(DonkeysHour x, String s) {
        tell(x, s);
        return x.rule();
    }

    static int day(DonkeysHour x, String s) {
        tell(x, s);
        return x.day();
    }

    /** A new object with THE STABLE and THE RULE (an empty one: none) told. */
    static DonkeysHour with(String lines, String rule) {
        DonkeysHour x = new DonkeysHour();
        stable(x, lines);
        rule(x, rule);
        return x;
    }
}
