import java.util.function.IntSupplier;
import java.util.function.IntUnaryOperator;

/** What the tests share: texts told as numbers, and answers held against those that are due. */
class RowRingChecks {
    static final int NONE = RowRing.NONE;
    static final int LOWEST = Integer.MIN_VALUE;
    static final int HIGHEST = Integer.MAX_VALUE;

    private static String about = "";
    private static int wrong = 0;
    private static int looked = 0;

    /** What stands ahead of each answer that is told as wrong from now on. */
    static void about(String words) {
        about = words;
    }

    static int looked() {
        return looked;
    }

    static void due(String what, int got, int want) {
        if (got != want) {
            wrong(what + " answered " + got + ", due is " + want);
        }
        looked++;
    }

    static void same(String what, String got, String want) {
        if (!got.equals(want)) {
            wrong(what + ": it is " + got + ", due is " + want);
        }
        looked++;
    }

    static void wrong(String what) {
        wrong++;
        System.out.println(about + what);
    }

    /** What lies beside a range, and the ends of all numbers, is answered alike. */
    static void beside(String call, IntUnaryOperator asked, int least, int most, int want) {
        for (int n : new int[] {least - 1, most + 1, LOWEST, HIGHEST}) {
            due(call + " of " + n, asked.applyAsInt(n), want);
        }
    }

    static void refused(RowRing r, String call, IntSupplier asked, int want) {
        String before = all(r);
        due(call, asked.getAsInt(), want);
        same("behind " + call + ", by which nothing happens", all(r), before);
    }

    /** Ends the test, with 1 if an answer was wrong. */
    static void finish() {
        System.out.println(wrong == 0 ? looked + " answers are as due" : wrong + " answers are not as due");
        if (wrong != 0) {
            System.exit(1);
        }
    }

    // ---- texts ----

    /** Twenty bytes of a text from a place on, as the numbers to be fed. */
    static int[] twenty(String text, int from) {
        int[] n = new int[5];
        for (int j = 0; j < 20; j++) {
            n[j / 4] = n[j / 4] << 8 | (from + j < text.length() ? text.charAt(from + j) : 0);
        }
        return n;
    }

    static void tell(RowRing r, String text) {
        r.end(0);
        for (int i = 0; i < text.length(); i += 20) {
            int[] n = twenty(text, i);
            r.feed(n[0], n[1], n[2], n[3], n[4]);
        }
        r.end(text.length());
    }

    static int smith(RowRing r, String text) {
        tell(r, text);
        return r.smith();
    }

    static int rule(RowRing r, String text) {
        tell(r, text);
        return r.rule();
    }

    /** A ring of this smithy and these rules, the last of them in force. */
    static RowRing ring(String smithy, String... rules) {
        RowRing r = new RowRing();
        if (smith(r, smithy) < 0) {
            due("smith of " + smithy, -99, 0);
        }
        for (String text : rules) {
            int number = rule(r, text);
            if (number < 0) {
                due("rule of " + text, number, 0);
            }
            r.force(number);
        }
        return r;
    }

    static void days(RowRing r, int n) {
        for (int i = 0; i < n; i++) {
            r.day();
        }
    }

    static int fault(int place, int kind) {
        return -2 - (1 + 8 * place + kind);
    }

    static void smithFault(String text, int place, int kind) {
        due("smith of '" + text + "'", smith(new RowRing(), text), fault(place, kind));
    }

    static void ruleFault(String text, int place, int kind) {
        due("rule of '" + text + "'", rule(new RowRing(), text), fault(place, kind));
    }

    static void smithFine(String text, int pairs) {
        due("smith of '" + text + "'", smith(new RowRing(), text), pairs);
    }

    static void ruleFine(String text) {
        due("rule of '" + text + "'", rule(new RowRing(), text), 0);
    }

    /** All that can be seen of how it is, but for the texts of rules and tape. */
    static String all(RowRing r) {
        StringBuilder b = new StringBuilder();
        for (int what = 0; what < 14; what++) {
            b.append(r.count(what)).append(' ');
        }
        int pairs = r.count(2);
        int sayings = r.count(3);
        for (int p = 0; p < pairs; p++) {
            for (int what = 0; what < 5; what++) {
                b.append(r.pair(p, what)).append(' ');
            }
            for (int s = 0; s < sayings; s++) {
                b.append(r.saying(p, s, 0)).append(' ').append(r.saying(p, s, 1)).append(' ');
            }
        }
        return b.append(r.ruled(0)).append(' ').append(r.ruled(1)).toString();
    }

    /** Whether pair 0 says saying 0 on the next day by a rule, which is told for that. */
    static boolean says(RowRing r, String rule) {
        int number = rule(r, rule);
        if (number < 0) {
            due("rule of " + rule, number, 0);
        }
        r.force(number);
        int before = r.saying(0, 0, 1);
        r.day();
        boolean said = r.saying(0, 0, 1) > before;
        r.undo();
        return said;
    }

    static void holds(String test, boolean want) {
        RowRing r = ring("smith 9 1;pair 7 99;pair 1 50;saying 4");
        due("the test " + test, says(r, "say 1 if " + test) ? 1 : 0, want ? 1 : 0);
    }
}
