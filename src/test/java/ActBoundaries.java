/** Promises 7 to 13: what the document says of the boundary cases of pairs, sayings, days and acts. */
final class ActBoundaries extends Boundaries {
    private static final String FIVE = "smith 9 1;pair 0 5;pair 0 5;pair 0 5;pair 0 5;pair 0 5;saying 5";
    private static final String QUIET = "smith 9 1;pair 7 99;pair 0 99;saying 5;saying 5;saying 6";

    private ActBoundaries() {
    }

    static void test() {
        asked();
        daySays();
        dayGoesBy();
        dayRules();
        say();
        soothe();
        door();
        undo();
    }

    /** Which saying pair 0 says on the next day: the only one whose number of times goes up, or NONE. */
    private static int saidNext(RowRing r) {
        int said = NONE;
        int[] before = new int[6];
        for (int s = 0; s < r.count(3); s++) {
            before[s] = r.saying(0, s, 1);
        }
        r.day();
        for (int s = 0; s < r.count(3); s++) {
            if (r.saying(0, s, 1) > before[s]) {
                said = s;
            }
        }
        return said;
    }

    private static void saysBy(String rule, int want) {
        due("said by " + rule, saidNext(ring(QUIET, rule)), want);
    }

    // ---- 7 and 8 ----

    private static void asked() {
        sentence(7, "Of a PAIR what 0: TEMPER, 1: BREAKS, 2: how wide its BAND is (0: none), 3: the SIZE it was made "
            + "to (0: none), 4: PAIRS near it, as bits", ActBoundaries::pairAsked);
        sentence(7, "NONE without these", ActBoundaries::noSuchPair);
        sentence(8, "what 0: how much it hurts them (HURT and what they MIND), 1: how often they have said it",
            ActBoundaries::sayingAsked);
        sentence(8, "NONE without these", ActBoundaries::noSuchSaying);
    }

    private static void pairAsked() {
        RowRing r = ring("smith 9 1;pair 98 99;pair 0 1;pair 0 99;pair 0 99;pair 0 99;saying 1;saying 0;"
            + "near 0 4;near 3 0;near 0 2;near 1 0");
        int[] want = {98, 99, 0, 0, 30};
        for (int what = 0; what < 5; what++) {
            due("pair(0, " + what + ")", r.pair(0, what), want[what]);
        }
        r.say(0, 0);
        int[] banded = {0, 99, 9, 99, 30};
        for (int what = 0; what < 5; what++) {
            due("pair(0, " + what + ") with a BAND", r.pair(0, what), banded[what]);
        }
        due("pair(4, 4)", r.pair(4, 4), 1);
        due("pair(1, 4)", r.pair(1, 4), 1);
        due("no PAIRS near", ring("smith 9 1;pair 0 1").pair(0, 4), 0);
    }

    private static void noSuchPair() {
        RowRing r = ring(QUIET);
        for (int what = 0; what < 5; what++) {
            int asked = what;
            beside("pair(.., " + what + ")", p -> r.pair(p, asked), 0, 1, NONE);
        }
        beside("pair(1, ..)", what -> r.pair(1, what), 0, 4, NONE);
        RowRing full = ring(FIVE);
        due("pair(4, 1)", full.pair(4, 1), 5);
        beside("pair of five", p -> full.pair(p, 1), 0, 4, NONE);
        due("without a SMITHY", new RowRing().pair(0, 0), NONE);
        due("without PAIRS", ring("smith 1 1").pair(0, 0), NONE);
    }

    private static void sayingAsked() {
        RowRing r = ring("smith 9 1;pair 0 99;saying 0;saying 9;minds 0 1 20");
        due("the least", r.saying(0, 0, 0), 0);
        due("the most", r.saying(0, 1, 0), 29);
        due("never said", r.saying(0, 0, 1), 0);
        for (int i = 0; i < 100; i++) {
            r.say(0, 0);
        }
        due("said often", r.saying(0, 0, 1), 100);
        due("the other never", r.saying(0, 1, 1), 0);
    }

    private static void noSuchSaying() {
        RowRing r = ring(QUIET);
        beside("saying(.., 0, 0)", p -> r.saying(p, 0, 0), 0, 1, NONE);
        beside("saying(0, .., 0)", s -> r.saying(0, s, 0), 0, 2, NONE);
        beside("saying(.., 0, 1)", p -> r.saying(p, 0, 1), 0, 1, NONE);
        beside("saying(0, .., 1)", s -> r.saying(0, s, 1), 0, 2, NONE);
        beside("saying(0, 0, ..)", what -> r.saying(0, 0, what), 0, 1, NONE);
        due("without a SMITHY", new RowRing().saying(0, 0, 0), NONE);
        due("without SAYINGS", ring("smith 1 1;pair 0 1").saying(0, 0, 0), NONE);
        due("without PAIRS", ring("smith 1 1;saying 0").saying(0, 0, 0), NONE);
        RowRing full = ring(FIVE + ";saying 1;saying 2;saying 3;saying 4;saying 6");
        due("saying(4, 5, 0)", full.saying(4, 5, 0), 6);
        beside("saying of six", s -> full.saying(4, s, 0), 0, 5, NONE);
        beside("saying of five", p -> full.saying(p, 5, 0), 0, 4, NONE);
    }

    // ---- 9 ----

    private static void daySays() {
        sentence(9, "A DAY: PAIRS that have a ROW on it, as bits", ActBoundaries::rowsOfDay);
        sentence(9, "NONE, and nothing happens, without a SMITHY, or on DAY 999", ActBoundaries::noDay);
        sentence(9, "PAIRS by numbers, without a BAND then, each by how all is then", ActBoundaries::howAllIsThen);
        sentence(9, "the SUM of the RULE IN FORCE's first CLAUSE without a TEST, or whose TEST holds (0 without), is "
            + "greatest, if it is above 0, of several the least (nothing, if none is)", ActBoundaries::byRule);
        sentence(9, "without a RULE the one that hurts them most (HURT and what they MIND), of several the least, if "
            + "that is above 0", ActBoundaries::byNoRule);
    }

    private static void rowsOfDay() {
        due("a ROW of each", ring(FIVE).day(), 31);
        due("a ROW of the last alone", ring(FIVE, "say 1 if pair = 4").day(), 16);
        due("no ROW", ring(FIVE, "say 0").day(), 0);
        due("without PAIRS", ring("smith 1 1;saying 9").day(), 0);
        due("without SAYINGS, and TEMPER above BREAKS", ring("smith 1 1;pair 9 1").day(), 0);
    }

    private static void noDay() {
        RowRing none = new RowRing();
        refused(none, "day without a SMITHY", none::day, NONE);
        RowRing r = ring("smith 9 1;pair 0 5;saying 0");
        // DAY 999 is not to be had within 512 calls; the words hold all the same.
        days(r, 998);
        due("on DAY 998", r.day(), 0);
        due("DAY", r.count(6), 999);
        refused(r, "day on DAY 999", r::day, NONE);
        due("undo", r.undo(), 19);
        due("on DAY 998 again", r.day(), 0);
    }

    private static void howAllIsThen() {
        // PAIR 1 hears enough of 0 for a ROW, so it has a BAND when its turn comes.
        RowRing r = ring("smith 9 1;pair 0 99;pair 0 2;saying 5;near 0 1");
        due("a ROW by hearing", r.day(), 2);
        due("said by 1", r.saying(1, 0, 1), 0);
        // PAIR 0 hears of it only when it has spoken.
        RowRing back = ring("smith 9 1;pair 0 2;pair 0 99;saying 5;near 0 1", "say 1 if pair = 1");
        due("a ROW behind its own turn", back.day(), 1);
        // What PAIR 0 does on the day is seen by PAIR 1.
        RowRing seen = ring("smith 9 1;pair 0 5;pair 0 99;saying 5",
            "say 1 if pair = 0;say 1 if bands = 1 and rows = 1");
        due("day", seen.day(), 1);
        due("said by 1", seen.saying(1, 0, 1), 1);
        // A BAND that gets smooth on a day lets its PAIR say something on the next only.
        RowRing smooth = ring("smith 1 9;pair 0 5;saying 5");
        due("day", smooth.day(), 1);
        days(smooth, 9);
        due("said by DAY 9", smooth.saying(0, 0, 1), 1);
        due("DAY 10", smooth.day(), 1);
    }

    private static void byRule() {
        saysBy("say 1 if saying = 1;say 0", 1);
        saysBy("say 0", NONE);
        saysBy("say 0 - 1", NONE);
        saysBy("say 1", 0);
        saysBy("say saying", 2);
        saysBy("say saying - 2", NONE);
        saysBy("say saying - 1", 2);
        saysBy("say 5 if saying > 0;say 4", 1);
        // The first CLAUSE that holds counts, be its SUM 0 or below.
        saysBy("say 0 if saying = 0;say 1", 1);
        saysBy("say 0 - 9 if saying < 2;say 7 if saying < 2;say 1", 2);
        saysBy("say 0;say 9", NONE);
        // 0 without a CLAUSE that holds: that is not above 0, but it is above what is below 0.
        saysBy("say 3 if 1 > 2", NONE);
        saysBy("say 0 - 3 if saying = 0", NONE);
        due("without SAYINGS", saidNext(ring("smith 1 1;pair 0 9", "say 9")), NONE);
        due("what does not hurt is said by a RULE", saidNext(ring("smith 1 1;pair 0 9;saying 0", "say 1")), 0);
    }

    private static void byNoRule() {
        due("the one that hurts most", saidNext(ring(QUIET)), 2);
        due("of several the least", saidNext(ring("smith 9 1;pair 0 99;saying 1;saying 6;saying 6")), 1);
        due("what they MIND counts", saidNext(ring("smith 9 1;pair 0 99;saying 9;saying 0;minds 0 1 10")), 1);
        due("of several the least, by both", saidNext(ring("smith 9 1;pair 0 99;saying 9;saying 0;minds 0 1 9")), 0);
        due("0 is not above 0", saidNext(ring("smith 9 1;pair 0 99;saying 0;saying 0")), NONE);
        due("1 is", saidNext(ring("smith 9 1;pair 0 99;saying 0;saying 1")), 1);
        due("without SAYINGS", saidNext(ring("smith 9 1;pair 0 99")), NONE);
    }

    private static void dayGoesBy() {
        sentence(9, "If DAY % 10 is 9, each BAND is WEAR less wide; one that is 0 or less then is smooth: the PAIR has "
            + "none any more (its SIZE is 0)", ActBoundaries::wearing);
        sentence(9, "TEMPERS above 0 are 1 less.", ActBoundaries::coolingDown);
        sentence(9, "DAY is 1 more (999 at most by hand; DAYS that are asked go on beyond)", ActBoundaries::dayCounts);
        sentence(9, "its TEMPER is HURT and what they MIND of it more (999 at most)", ActBoundaries::mostOnDay);
        sentence(9, "its BAND is as wide, WIDEST at most; TEMPER is 0.", ActBoundaries::bandsOfDay);
    }

    private static void wearing() {
        // BANDS of 1, 2, 3 and 4, and WEAR of 3.
        RowRing r = ring("smith 4 3;pair 1 1;pair 2 1;pair 3 1;pair 4 1;saying 0", "say 0");
        for (int p = 0; p < 4; p++) {
            r.say(p, 0);
        }
        days(r, 9);
        due("how wide ahead of DAY 9", r.count(9), 10);
        due("DAY 9", r.day(), 0);
        due("PAIRS that have a BAND", r.count(7), 8);
        for (int p = 0; p < 4; p++) {
            due("how wide of " + p, r.pair(p, 2), p == 3 ? 1 : 0);
            due("SIZE of " + p, r.pair(p, 3), p == 3 ? 4 : 0);
        }
        days(r, 9);
        due("how wide ahead of DAY 19", r.count(9), 1);
        r.day();
        due("how wide", r.count(9), 0);
        due("ROWS so far stay", r.count(8), 4);
        // On the very DAY on which it is made, too.
        RowRing thin = ring("smith 3 3;pair 0 1;saying 4", "say 1 if day = 9");
        days(thin, 9);
        due("DAY 9", thin.day(), 1);
        due("how wide", thin.pair(0, 2), 0);
        due("SIZE", thin.pair(0, 3), 0);
    }

    private static void coolingDown() {
        RowRing r = ring("smith 9 1;pair 0 99;pair 1 99;pair 2 99");
        int[][] want = {{0, 0, 1}, {0, 0, 0}, {0, 0, 0}};
        for (int day = 0; day < 3; day++) {
            r.day();
            for (int p = 0; p < 3; p++) {
                due("TEMPER of " + p + " behind DAY " + day, r.pair(p, 0), want[day][p]);
            }
        }
        RowRing banded = ring(FIVE);
        banded.day();
        due("TEMPER of one with a BAND", banded.pair(0, 0), 0);
    }

    private static void dayCounts() {
        RowRing r = ring("smith 9 1;pair 0 5;saying 5", "say 1 if day = 1003");
        for (int i = 0; i < 1005; i++) {
            r.day();
        }
        due("DAY", r.count(6), 999);
        due("ROWS in 4 DAYS", r.ahead(0, 4, 2), 0);
        due("ROWS in 5 DAYS", r.ahead(0, 5, 2), 1);
        due("the DAY of the ROW", r.quarrel(0, 0), 1003);
    }

    private static void mostOnDay() {
        // No run brings a TEMPER of 999: 99 and 29 are the most, and behind them there is a ROW.
        RowRing r = ring("smith 99 1;pair 99 99;saying 9;minds 0 0 20");
        due("day", r.day(), 1);
        due("SIZE", r.pair(0, 3), 128);
    }

    private static void bandsOfDay() {
        RowRing r = ring("smith 6 1;pair 0 5;pair 1 5;pair 2 5;saying 5");
        due("day", r.day(), 7);
        int[] wide = {5, 6, 6};
        for (int p = 0; p < 3; p++) {
            due("how wide of " + p, r.pair(p, 2), wide[p]);
            due("SIZE of " + p, r.pair(p, 3), 5 + p);
            due("TEMPER of " + p, r.pair(p, 0), 0);
        }
    }

    private static void dayRules() {
        sentence(9, "/ is towards 0, % its rest, both 0 by 0; all goes round in 64 bits.", ActBoundaries::sums);
        sentence(9, "of a PAIR that has no BAND and a SAYING: pair, saying, temper, breaks, hurt (of the SAYING), "
            + "minds (how much more it hurts them), said (how often they have said it), near (PAIRS near them that "
            + "have no BAND), bands (PAIRS that have one), rows (so far), day.", ActBoundaries::words);
        sentence(9, "TEST: PART { or PART }. PART: FACT { and FACT }.", ActBoundaries::tests);
        sentence(9, "SUM: TERM { (+ or -) TERM }. TERM: VALUE { (* or / or %) VALUE }.", ActBoundaries::terms);
    }

    private static void sums() {
        holds("7 / 2 = 3", true);
        holds("0 - 7 = 0 - 7", true);
        // Below 0 a quotient is towards 0, and the rest has the sign of what is parted.
        String low = "99999*99999*99999*99999*99999";
        // That is -337012131482191585.
        holds(low + " < 0", true);
        holds("191 + " + low + " / 1000 % 1000 = 0", true);
        holds("585 + " + low + " % 1000 = 0", true);
        holds(low + " / 99999 * 99999 > " + low, true);
        holds("7 / 0 = 0", true);
        holds("7 % 0 = 0", true);
        holds("0 / 0 + 0 % 0 = 0", true);
        holds("5 + 7 / 0 * 3 = 5", true);
        holds("7 / 8 = 0", true);
        holds("8 / 8 = 1", true);
        holds("7 % 8 = 7", true);
        holds("8 % 8 = 0", true);
        // 2 to the 63rd goes round to the lowest of all numbers, 2 to the 64th to 0.
        String power = "32768*32768*32768*32768*8";
        holds(power + " < 0", true);
        holds(power + " - 1 > 0", true);
        holds(power + " * 2 = 0", true);
        holds(power + " / 1 = " + power, true);
    }

    private static void words() {
        // With nothing said, nobody near, no BAND, no ROW, on DAY 0.
        RowRing none = ring("smith 9 1;pair 0 99;saying 0");
        due("all words but breaks are 0", says(none, "say 1 if pair+saying+temper+hurt+minds+said+near+bands+rows+day"
            + " = 0 and breaks = 99") ? 1 : 0, 1);
        RowRing full = ring("smith 99 1;pair 98 99;pair 0 9;pair 0 9;pair 0 9;pair 0 9;saying 9;minds 0 0 20;"
            + "near 0 1;near 0 2;near 0 3;near 0 4");
        due("all are near", says(full, "say 1 if near = 4 and bands = 0 and minds = 20 and hurt = 9 and temper = 98")
            ? 1 : 0, 1);
        // PAIR 0 hears of each, 4 more, and must not break by that.
        full.soothe(0, 20);
        for (int p = 1; p < 5; p++) {
            full.say(p, 0);
        }
        due("none that is near is without a BAND", says(full, "say 1 if near = 0 and bands = 4 and rows = 4") ? 1 : 0,
            1);
        // Of the last PAIR and the last SAYING.
        RowRing last = ring("smith 9 1;pair 0 99;pair 0 99;pair 0 99;pair 0 99;pair 6 98;saying 1;saying 2;saying 3;"
            + "saying 4;saying 5;saying 6;minds 4 5 7;minds 0 5 8;minds 4 0 9",
            "say 1 if pair = 4 and saying = 5 and temper = 18 and breaks = 98 and hurt = 6 and minds = 7 and said = 1");
        last.say(4, 5);
        last.soothe(4, 1);
        last.day();
        due("said by PAIR 4", last.saying(4, 5, 1), 2);
        RowRing later = ring("smith 1 1;pair 0 5;saying 5");
        days(later, 10);
        boolean said = says(later, "say 1 if rows = 1 and bands = 0 and day = 10 and said = 1");
        due("ROWS so far, and no BAND any more", said ? 1 : 0, 1);
    }

    private static void tests() {
        holds("1 = 2 or 1 = 1 and 1 = 1", true);
        holds("1 = 1 or 1 = 1 and 1 = 2", true);
        holds("[1 = 1 or 1 = 1] and 1 = 2", false);
        holds("1 = 2 and 1 = 1 or 1 = 1", true);
        holds("1 = 2 and [1 = 1 or 1 = 1]", false);
        holds("1 = 2 or 1 = 2", false);
        holds("not 1 = 1 or 1 = 1", true);
        holds("not 1 = 2 and 1 = 2", false);
    }

    private static void terms() {
        holds("2 + 3 * 4 = 14", true);
        holds("2 * 3 + 4 = 10", true);
        holds("14 = 2 + 3 * 4", true);
        holds("9 - 3 - 2 = 4", true);
        holds("9 - 3 + 2 = 8", true);
        holds("9 + 3 - 2 - 1 = 9", true);
        holds("9 - 6 / 3 = 7", true);
        holds("9 - 7 % 4 = 6", true);
        holds("24 / 4 / 2 = 3", true);
        holds("24 / 4 * 2 = 12", true);
        holds("3 * 17 % 10 = 1", true);
        holds("17 % 10 * 3 = 21", true);
        holds("17 % 10 / 3 = 2", true);
        holds("1 + 1 < 1 + 2", true);
        holds("1 + 2 <= 2 + 1", true);
        holds("2 - 1 >= 3 - 2", true);
        holds("2 * 2 > 9 % 5 - 1", true);
        holds("1 + 1 = 3 - 1 and not 1 + 1 = 3", true);
    }

    // ---- 10 ----

    private static void say() {
        sentence(10, "SAY: PAIRS that have a ROW by it, as bits", ActBoundaries::rowsOfSaying);
        sentence(10, "NONE, and nothing happens, without these", ActBoundaries::noSay);
        sentence(10, "SAY (a PAIR without a BAND a SAYING)", ActBoundaries::sayWithBand);
        sentence(10, "A PAIR without a BAND SAYS a SAYING: its TEMPER is HURT and what they MIND of it more (999 at "
            + "most), it is said once more by them", ActBoundaries::mostBySaying);
        sentence(10, "each PAIR near them without a BAND hears it: half of its HURT, downwards, more (999 at most).",
            ActBoundaries::half);
        sentence(10, "Then, of those, PAIRS by numbers, each whose TEMPER is BREAKS or more has a ROW",
            ActBoundaries::breaksOrMore);
        sentence(10, "its SIZE is that TEMPER, its BAND is as wide, WIDEST at most; TEMPER is 0.",
            ActBoundaries::widestAtMost);
    }

    private static void rowsOfSaying() {
        RowRing r = ring("smith 9 1;pair 0 99;pair 0 4;pair 0 4;pair 0 4;pair 0 4;saying 9;saying 1;"
            + "near 0 1;near 0 2;near 0 3;near 0 4");
        due("no ROW", r.say(0, 1), 0);
        due("a ROW of all that hear", r.say(0, 0), 30);
        RowRing each = ring("smith 9 1;pair 0 9;pair 0 4;saying 9;near 0 1");
        due("a ROW of each", each.say(0, 0), 3);
    }

    private static void noSay() {
        RowRing none = new RowRing();
        refused(none, "say without a SMITHY", () -> none.say(0, 0), NONE);
        RowRing r = ring(QUIET);
        for (int n : new int[] {-1, 2, 5, LOWEST, HIGHEST}) {
            refused(r, "say(" + n + ", 0)", () -> r.say(n, 0), NONE);
        }
        RowRing s = ring(QUIET);
        for (int n : new int[] {-1, 3, 6, LOWEST, HIGHEST}) {
            refused(s, "say(0, " + n + ")", () -> s.say(0, n), NONE);
        }
        due("say(1, 2)", s.say(1, 2), 0);
    }

    private static void sayWithBand() {
        RowRing r = ring("smith 1 1;pair 0 5;pair 0 99;saying 5;near 0 1", "say 0");
        due("say", r.say(0, 0), 1);
        refused(r, "say with a BAND", () -> r.say(0, 0), NONE);
        days(r, 9);
        refused(r, "say with a BAND on DAY 9", () -> r.say(0, 0), NONE);
        r.day();
        due("say when it is smooth", r.say(0, 0), 1);
    }

    private static void mostBySaying() {
        // No run brings a TEMPER of 999: 99 and 29 are the most, and behind them there is a ROW.
        RowRing r = ring("smith 99 1;pair 99 99;pair 4 9;saying 9;saying 0;minds 0 0 20");
        due("say", r.say(0, 0), 1);
        due("SIZE", r.pair(0, 3), 128);
        due("said", r.saying(0, 0, 1), 1);
        due("what does not hurt", r.say(1, 1), 0);
        due("TEMPER", r.pair(1, 0), 4);
        due("it is said all the same", r.saying(1, 1, 1), 1);
        due("said by the other", r.saying(0, 1, 1), 0);
    }

    private static void half() {
        for (int hurt = 0; hurt <= 9; hurt++) {
            RowRing r = ring("smith 9 1;pair 0 99;pair 0 99;pair 0 99;saying " + hurt + ";minds 0 0 20;minds 1 0 20;"
                + "near 0 1");
            r.say(0, 0);
            due("half of " + hurt, r.pair(1, 0), hurt / 2);
            due("of one who is not near", r.pair(2, 0), 0);
            due("said by the one who hears", r.saying(1, 0, 1), 0);
        }
        RowRing r = ring("smith 99 1;pair 0 99;pair 99 99;saying 9;near 0 1");
        due("a ROW of the one who hears", r.say(0, 0), 2);
        // No run brings a TEMPER of 999 by hearing: 99 and 4 are the most.
        due("SIZE", r.pair(1, 3), 103);
        due("with a BAND", r.say(0, 0), 0);
        due("it hears nothing", r.pair(1, 0), 0);
        due("SIZE stays", r.pair(1, 3), 103);
    }

    private static void breaksOrMore() {
        // PAIR 0 comes to 5, PAIR 1 hears 2.
        String[] pairs = {"pair 0 6;pair 0 3", "pair 0 5;pair 0 3", "pair 0 4;pair 0 3", "pair 0 6;pair 0 2",
            "pair 0 6;pair 0 1", "pair 0 5;pair 0 2"};
        int[] want = {0, 1, 1, 2, 2, 3};
        for (int i = 0; i < pairs.length; i++) {
            due("say of " + pairs[i], ring("smith 9 1;" + pairs[i] + ";saying 5;near 0 1").say(0, 0), want[i]);
        }
        // TEMPER was BREAKS already: a ROW of those who say or hear, though it be nothing, and of no other.
        RowRing r = ring("smith 9 1;pair 8 8;pair 8 8;pair 8 8;saying 0;near 0 1");
        due("say of what does not hurt", r.say(0, 0), 3);
        due("TEMPER of one who does not hear", r.pair(2, 0), 8);
    }

    private static void widestAtMost() {
        int[] wide = {9, 10, 10, 10};
        for (int i = 0; i < 4; i++) {
            int size = i == 3 ? 99 : 9 + i;
            RowRing r = ring("smith 10 1;pair " + size + " 9;saying 0");
            r.say(0, 0);
            due("SIZE", r.pair(0, 3), size);
            due("how wide", r.pair(0, 2), wide[i]);
            due("TEMPER", r.pair(0, 0), 0);
        }
    }

    // ---- 11 ----

    private static void soothe() {
        sentence(11, "SOOTHE: TEMPER then", ActBoundaries::temperThen);
        sentence(11, "NONE, and nothing happens, without these", ActBoundaries::noSoothe);
        sentence(11, "SOOTHE (a PAIR has that much TEMPER: it is so much less, 1 to 20)", ActBoundaries::thatMuch);
    }

    private static void temperThen() {
        RowRing r = ring("smith 9 1;pair 99 1");
        due("soothe of one above BREAKS", r.soothe(0, 1), 98);
        due("TEMPER", r.pair(0, 0), 98);
        due("ROWS by that", r.count(8), 0);
    }

    private static void noSoothe() {
        RowRing none = new RowRing();
        refused(none, "soothe without a SMITHY", () -> none.soothe(0, 1), NONE);
        RowRing r = ring("smith 9 1;pair 50 99;pair 50 99");
        for (int n : new int[] {-1, 2, LOWEST, HIGHEST}) {
            refused(r, "soothe(" + n + ", 1)", () -> r.soothe(n, 1), NONE);
        }
    }

    private static void thatMuch() {
        RowRing r = ring("smith 9 1;pair 50 99;pair 20 99;pair 19 99;pair 0 99;pair 0 1;saying 1");
        for (int n : new int[] {0, -1, 21, LOWEST, HIGHEST}) {
            refused(r, "soothe(0, " + n + ")", () -> r.soothe(0, n), NONE);
        }
        due("soothe(0, 1)", r.soothe(0, 1), 49);
        due("soothe(0, 20)", r.soothe(0, 20), 29);
        due("soothe(1, 20) of 20", r.soothe(1, 20), 0);
        refused(r, "soothe(2, 20) of 19", () -> r.soothe(2, 20), NONE);
        refused(r, "soothe(3, 1) of 0", () -> r.soothe(3, 1), NONE);
        r.say(4, 0);
        due("soothe of one with a BAND", r.soothe(4, 1), NONE);
    }

    // ---- 12 ----

    private static void door() {
        sentence(12, "DOOR: PAIRS that have a ROW by it, as bits", ActBoundaries::rowsOfDoor);
        sentence(12, "NONE, and nothing happens, if each has a BAND (or there are none)", ActBoundaries::noDoor);
        sentence(12, "DOOR (it is left open: each PAIR without a BAND has TEMPER 3 more, 999 at most; then ROWS as "
            + "behind a SAYING, of all)", ActBoundaries::threeMore);
    }

    private static void rowsOfDoor() {
        due("a ROW of each", ring("smith 9 1;pair 2 5;pair 2 5;pair 2 5;pair 2 5;pair 2 5").door(), 31);
        due("no ROW", ring(FIVE).door(), 0);
        due("a ROW of the last", ring("smith 9 1;pair 0 4;pair 1 5;pair 0 3").door(), 4);
    }

    private static void noDoor() {
        RowRing none = new RowRing();
        refused(none, "door without a SMITHY", none::door, NONE);
        RowRing empty = ring("smith 9 1;saying 1");
        refused(empty, "door without PAIRS", empty::door, NONE);
        RowRing r = ring(FIVE, "say 0");
        for (int p = 0; p < 4; p++) {
            r.say(p, 0);
        }
        due("door, and one is without a BAND", r.door(), 0);
        due("TEMPER of that one", r.pair(4, 0), 3);
        r.say(4, 0);
        refused(r, "door, and each has a BAND", r::door, NONE);
    }

    private static void threeMore() {
        RowRing r = ring("smith 99 1;pair 0 4;pair 0 3;pair 0 2;pair 99 99;pair 99 1;saying 0");
        r.say(4, 0);
        due("door", r.door(), 14);
        int[] size = {0, 3, 3, 102, 99};
        int[] wide = {0, 3, 3, 99, 99};
        // No run brings a TEMPER of 999 by the DOOR: 99 and 3 are the most.
        for (int p = 0; p < 5; p++) {
            due("SIZE of " + p, r.pair(p, 3), size[p]);
            due("how wide of " + p, r.pair(p, 2), wide[p]);
            due("TEMPER of " + p, r.pair(p, 0), p == 0 ? 3 : 0);
        }
        due("ROWS", r.count(8), 4);
        due("DAY", r.count(6), 0);
    }

    // ---- 13 ----

    private static void undo() {
        sentence(13, "The last ACT is UNDONE: how many more can be", ActBoundaries::undoEach);
        sentence(13, "NONE, and nothing happens: none can", ActBoundaries::noUndo);
        sentence(13, "The last 20 can be UNDONE, the last first.", ActBoundaries::lastTwenty);
    }

    private static void undoEach() {
        RowRing r = ring(QUIET);
        String begin = all(r);
        r.day();
        String day = all(r);
        r.say(1, 2);
        String say = all(r);
        r.soothe(0, 4);
        String soothe = all(r);
        due("door", r.door(), 0);
        due("undo of the DOOR", r.undo(), 3);
        same("behind it", all(r), soothe);
        due("undo of SOOTHE", r.undo(), 2);
        same("behind it", all(r), say);
        RowRing s = ring(QUIET);
        s.day();
        s.say(1, 2);
        due("undo of SAY", s.undo(), 1);
        same("behind it", all(s), day);
        due("undo of the DAY", s.undo(), 0);
        same("behind it", all(s), begin);
        // Calls by which nothing happens are no ACTS.
        s.say(9, 9);
        s.soothe(0, 21);
        due("undo of what did not happen", s.undo(), NONE);
    }

    private static void noUndo() {
        RowRing none = new RowRing();
        refused(none, "undo without a SMITHY", none::undo, NONE);
        RowRing r = ring(QUIET, "say 1");
        r.seed(5);
        r.note(0, 0, 0);
        refused(r, "undo, and there was no ACT", r::undo, NONE);
        r.day();
        due("undo", r.undo(), 0);
        refused(r, "undo, and all are UNDONE", r::undo, NONE);
    }

    private static void lastTwenty() {
        RowRing r = ring("smith 9 1;pair 99 99");
        for (int i = 1; i <= 21; i++) {
            due("soothe " + i, r.soothe(0, 1), 99 - i);
            due("ACTS behind " + i, r.count(11), Math.min(20, i));
        }
        for (int i = 19; i >= 0; i--) {
            due("undo", r.undo(), i);
            due("TEMPER", r.pair(0, 0), 79 + 19 - i);
        }
        due("undo of the 21st last", r.undo(), NONE);
        due("TEMPER", r.pair(0, 0), 98);
        // Once more round, from another place.
        for (int i = 0; i < 27; i++) {
            r.soothe(0, 1);
        }
        due("ACTS", r.count(11), 20);
        for (int i = 0; i < 20; i++) {
            r.undo();
        }
        due("TEMPER", r.pair(0, 0), 91);
        due("undo", r.undo(), NONE);
    }
}
