/** How DonkeysHour is used; README.md tells what it prints. */
public final class Mine {
    private Mine() {
    }

    /** Puts a text behind THE TEXT: four signs at a time, the highest byte first, then cut to its length. */
    private static void tell(DonkeysHour x, String s) {
        int before = x.count(9);
        for (int i = 0; i < s.length(); i += 4) {
            int v = 0;
            for (int j = i; j < i + 4; j++) {
                v = v << 8 | (j < s.length() ? s.charAt(j) : 0);
            }
            x.sign(v);
        }
        x.end(before + s.length());
    }

    private static void print(String what, DonkeysHour x) {
        StringBuilder line = new StringBuilder(what);
        for (int i = 0; i < x.count(8); i++) {
            line.append(i == 0 ? ", the row: " : " ").append(x.row(i));
        }
        System.out.println(line);
    }

    public static void main(String[] args) {
        DonkeysHour x = new DonkeysHour();
        tell(x, "5:0000;3:20010");
        System.out.println("donkeys: " + x.stable());
        tell(x, "1+c");
        System.out.println("the rule stands: " + (x.rule() == 0));
        System.out.println("donkey 0 strikes first after " + x.when(0, 1) + " minutes");
        System.out.println("both strike together after " + x.together(0, 1));
        print("a bribe to hold it: from minute " + x.bribe(0, 2, -1), x);
        System.out.println("the carrot's number: " + x.carrot(0, 4, 5, -1));
        print("strokes in 10 minutes: " + x.minutes(10), x);
        System.out.println("its first hour took " + x.took(0, 1) + " minutes");
        System.out.println("what can be undone then: " + x.undo());
        tell(x, "m4;s02=9;q");
        System.out.println("a text that is wrong at its last sign: " + x.day());
        System.out.println("a refused call: " + x.minutes(601));
        try {
            x.donkey(2, 0);
        } catch (java.util.NoSuchElementException e) {
            System.out.println("there is no donkey 2");
        }
    }
}
