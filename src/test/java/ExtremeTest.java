/** No call throws but those that the document names, whatever it is given, in several states. */
final class ExtremeTest {
    private static final int[] ENDS = {Integer.MIN_VALUE, -600, -1, 0, 1, 3, 9, 12, 600, 601, 10000, Integer.MAX_VALUE};

    private ExtremeTest() {
    }

    static void run() {
        Check.promise(Check.LANGUAGE);
        for (String name : Calls.NAMES) {
            for (int state = 0; state < 3; state++) {
                all(state, name);
            }
        }
    }

    private static DonkeysHour in(int state) {
        return state == 0 ? new DonkeysHour() : state == 1 ? Check.with("9:9999;0:0000;5:123456789012", "h+c-f") : busy();
    }

    private static DonkeysHour busy() {
        DonkeysHour x = Check.with("9:9199;0:000000000000", "-128*256*256*256/-1+c+f");
        Check.flies(x, "1234567890123456789012345678901234567890");
        x.keep(0);
        for (int i = 0; i < 12; i++) {
            x.carrot(i % 2, 0, 9999, 1);
            x.owe(i % 6, (i + 1) % 6, 99, i % 2, i);
            x.minutes(600);
            x.heard(i % 2, i, 600 - i);
        }
        for (int i = 0; i < 20; i++) {
            x.sign(0x6D3B3031);
        }
        return x;
    }

    private static void all(int state, String name) {
        DonkeysHour x = in(state);
        int k = Calls.arguments(name);
        int runs = 1;
        for (int i = 0; i < Math.min(k, 3); i++) {
            runs *= ENDS.length;
        }
        boolean mayThrow = name.equals("donkey") || name.equals("apart") || name.equals("row");
        for (int run = 0; run < runs; run++) {
            // An object is promised 512 calls; some of them brought it into its state.
            x = run % 400 == 399 ? in(state) : x;
            int[] a = new int[k];
            int rest = run;
            for (int i = 0; i < k; i++) {
                a[i] = ENDS[(i < 3 ? rest : run + i) % ENDS.length];
                rest /= ENDS.length;
            }
            String thrown = "";
            try {
                long got = Calls.real(x, name, a);
                thrown = got == Calls.THROWN && !mayThrow ? "NoSuchElementException" : "";
            } catch (RuntimeException e) {
                thrown = e.toString();
            }
            Check.is(name + java.util.Arrays.toString(a) + " throws " + thrown, thrown.isEmpty(), true);
        }
    }
}
