/** Promises 14 to 26: what the document says of the boundary cases of what is asked. */
final class AskedBoundaries extends Boundaries {
    private static final String ONE = "smith 9 1;pair 0 5;saying 5";
    private static final String TWO = "smith 9 1;pair 0 5;pair 0 99;saying 5;saying 0";
    private static final String FIVE = "smith 1 1;pair 0 1;pair 0 1;pair 0 1;pair 0 1;pair 0 1";

    private AskedBoundaries() {
    }

    static void test() {
        ahead();
        quarrel();
        bring();
        smooth();
        strike();
        home();
        benches();
        gold();
        heard();
        game();
        spark();
        calm();
        largest();
    }

    /** A ring of two pairs of which the first has a band. */
    private static RowRing banded() {
        RowRing r = ring(TWO);
        due("say", r.say(0, 0), 1);
        return r;
    }

    // ---- 14 ----

    private static void ahead() {
        sentence(14, "(By what is asked nothing changes; DAYS go on by the RULE IN FORCE.)",
            AskedBoundaries::nothingChanges);
        sentence(14, "AHEAD n DAYS (0 to 100): TEMPER of a PAIR; how wide its BAND is; ROWS so far.",
            AskedBoundaries::daysAhead);
        sentence(14, "ROWS (pair is not asked)", AskedBoundaries::pairNotAsked);
        sentence(14, "NONE without these, or a SMITHY", AskedBoundaries::noAhead);
    }

    private static void nothingChanges() {
        RowRing r = ring("smith 9 1;pair 0 9;pair 3 40;saying 5;saying 9;near 0 1", "say saying if day < 3;say 1");
        r.seed(3);
        r.say(1, 0);
        String before = all(r);
        r.ahead(0, 100, 2);
        r.quarrel(1, 1);
        r.bring(0, 14, 1);
        r.smooth(0);
        r.strike(30, 1);
        r.home(30, 0);
        r.benches(0);
        r.gold(99, 0);
        r.heard(0, 1, 0);
        r.game(0, 4, 0);
        r.spark(0);
        r.calm(30, 0);
        r.largest(60, 0);
        r.ruled(0);
        r.look(60, 0);
        r.doors(10, 60, 50, 0);
        same("behind what was asked", all(r), before);
        // By the RULE PAIR 0 says SAYING 1 on DAY 0, as if nothing had been asked.
        due("day", r.day(), 1);
        due("said", r.saying(0, 1, 1), 1);
        // That a PAIR was asked about at home, or a SAYING as struck, keeps nobody from hearing and saying.
        RowRing heard = ring("smith 9 1;pair 0 99;pair 0 99;saying 8;near 0 1");
        heard.home(1, 0);
        heard.say(0, 0);
        due("TEMPER of who hears it behind home", heard.pair(1, 0), 4);
        heard.strike(30, 0);
        heard.day();
        due("said behind strike", heard.saying(1, 0, 1), 1);
        RowRing ruled = ring(ONE, "say 1 if day = 7");
        due("ROWS by the RULE IN FORCE", ruled.ahead(0, 7, 2), 0);
        ruled.force(NONE);
        due("ROWS by none", ruled.ahead(0, 7, 2), 1);
    }

    private static void daysAhead() {
        RowRing cool = ring("smith 9 1;pair 99 99");
        due("TEMPER in 0 DAYS", cool.ahead(0, 0, 0), 99);
        due("TEMPER in 1 DAY", cool.ahead(0, 1, 0), 98);
        due("TEMPER in 98 DAYS", cool.ahead(0, 98, 0), 1);
        due("TEMPER in 99 DAYS", cool.ahead(0, 99, 0), 0);
        due("TEMPER in 100 DAYS", cool.ahead(0, 100, 0), 0);
        RowRing last = ring("smith 9 1;pair 0 5;saying 9", "say 1 if day = 99");
        due("ROWS in 99 DAYS", last.ahead(0, 99, 2), 0);
        due("ROWS in 100 DAYS", last.ahead(0, 100, 2), 1);
        due("how wide in 99 DAYS", last.ahead(0, 99, 1), 0);
        due("how wide in 100 DAYS, made and worn on the last", last.ahead(0, 100, 1), 8);
        RowRing band = banded();
        due("how wide in 0 DAYS", band.ahead(0, 0, 1), 5);
        due("ROWS so far, in 0 DAYS", band.ahead(0, 0, 2), 1);
        for (int what = 0; what < 3; what++) {
            int asked = what;
            beside("ahead(0, .., " + what + ")", n -> band.ahead(0, n, asked), 0, 100, NONE);
        }
    }

    private static void pairNotAsked() {
        RowRing r = banded();
        for (int pair : new int[] {-1, 2, 5, LOWEST, HIGHEST}) {
            due("ahead(" + pair + ", 0, 2)", r.ahead(pair, 0, 2), 1);
        }
        due("without PAIRS", ring("smith 1 1").ahead(0, 100, 2), 0);
    }

    private static void noAhead() {
        RowRing r = ring(TWO);
        beside("ahead(.., 1, 0)", p -> r.ahead(p, 1, 0), 0, 1, NONE);
        beside("ahead(.., 1, 1)", p -> r.ahead(p, 1, 1), 0, 1, NONE);
        beside("ahead(0, 1, ..)", what -> r.ahead(0, 1, what), 0, 2, NONE);
        for (int what = 0; what < 3; what++) {
            due("ahead without a SMITHY", new RowRing().ahead(0, 0, what), NONE);
        }
    }

    // ---- 15 ----

    private static void quarrel() {
        sentence(15, "QUARREL of a PAIR without a BAND: the DAY on which it has a ROW, in 200 DAYS; its SIZE.",
            AskedBoundaries::quarrelIn200);
        sentence(15, "-2: on none of these", AskedBoundaries::noRowIn200);
        sentence(15, "NONE without these", AskedBoundaries::noQuarrel);
    }

    private static void quarrelIn200() {
        RowRing first = ring(ONE);
        due("on the first", first.quarrel(0, 0), 0);
        due("SIZE", first.quarrel(0, 1), 5);
        RowRing last = ring(ONE, "say 1 if day = 199");
        due("on the last", last.quarrel(0, 0), 199);
        due("SIZE", last.quarrel(0, 1), 5);
        RowRing later = ring(ONE, "say 1 if day = 200");
        later.day();
        due("on the last from DAY 1 on", later.quarrel(0, 0), 200);
        due("the SIZE is above WIDEST", ring("smith 1 9;pair 99 99;saying 9;minds 0 0 20").quarrel(0, 1), 128);
        due("the BAND is smooth on the very DAY", ring("smith 1 9;pair 0 1;saying 5", "say 1 if day = 9").quarrel(0, 1),
            5);
    }

    private static void noRowIn200() {
        RowRing late = ring(ONE, "say 1 if day = 200");
        due("behind the last", late.quarrel(0, 0), -2);
        due("behind the last", late.quarrel(0, 1), -2);
        due("never", ring("smith 9 1;pair 99 1").quarrel(0, 0), -2);
        due("another has one", ring(TWO, "say 1 if pair = 0").quarrel(1, 0), -2);
    }

    private static void noQuarrel() {
        RowRing r = banded();
        due("with a BAND", r.quarrel(0, 0), NONE);
        due("with a BAND", r.quarrel(0, 1), NONE);
        beside("quarrel(.., 0)", p -> r.quarrel(p, 0), 0, 1, NONE);
        beside("quarrel(1, ..)", what -> r.quarrel(1, what), 0, 1, NONE);
        due("without a SMITHY", new RowRing().quarrel(0, 0), NONE);
    }

    // ---- 16 ----

    private static void bring() {
        sentence(16, "BRING of a PAIR without a BAND and a SIZE (1 to 120)", AskedBoundaries::sizes);
        sentence(16, "the fewest SAYINGS said by them now, one behind the other (no DAY goes by, nobody hears), so "
            + "that a ROW of just that SIZE comes by the last: how many", AskedBoundaries::justThatSize);
        sentence(16, "the first of the first such row (least numbers first)", AskedBoundaries::firstBrought);
        sentence(16, "BRING what 0: how many, 1: the first SAYING; -2: by none.", AskedBoundaries::broughtByNone);
        sentence(16, "NONE without these", AskedBoundaries::noBring);
    }

    private static void sizes() {
        due("1", ring("smith 9 1;pair 0 1;saying 1").bring(0, 1, 0), 1);
        RowRing most = ring("smith 9 1;pair 99 99;saying 1;saying 2;minds 0 0 20;minds 0 1 20");
        due("120", most.bring(0, 120, 0), 1);
        due("120", most.bring(0, 120, 1), 0);
        for (int what = 0; what < 2; what++) {
            int asked = what;
            beside("bring(0, .., " + what + ")", n -> most.bring(0, n, asked), 1, 120, NONE);
        }
        due("99 by threes", ring("smith 9 1;pair 0 99;saying 1;minds 0 0 2").bring(0, 99, 0), 33);
    }

    private static void bringsOf(RowRing r, int pair, int size, int many, int first) {
        due("bring(" + pair + ", " + size + ", 0)", r.bring(pair, size, 0), many);
        due("bring(" + pair + ", " + size + ", 1)", r.bring(pair, size, 1), first);
    }

    private static void justThatSize() {
        RowRing r = ring("smith 9 1;pair 0 5;saying 3;pair 12 12;saying 0;pair 0 2;near 0 2");
        bringsOf(r, 0, 6, 2, 0);
        // 3 is no ROW, 5 is never come by, and behind 6 there was a ROW already.
        bringsOf(r, 0, 3, -2, -2);
        bringsOf(r, 0, 5, -2, -2);
        bringsOf(r, 0, 9, -2, -2);
        // TEMPER is BREAKS already: the ROW comes by the first, though it does not hurt.
        bringsOf(r, 1, 12, 1, 1);
        bringsOf(r, 1, 15, 1, 0);
        bringsOf(r, 1, 11, -2, -2);
        // At BREAKS and just ahead of it.
        RowRing s = ring("smith 9 1;pair 4 5;saying 1;pair 3 5;pair 5 5");
        bringsOf(s, 0, 5, 1, 0);
        bringsOf(s, 1, 5, 2, 0);
        bringsOf(s, 2, 6, 1, 0);
        bringsOf(s, 2, 7, -2, -2);
        due("nobody heard", ring("smith 9 1;pair 0 9;pair 0 1;saying 3;near 0 1").bring(0, 9, 0), 3);
        // The fewest, be they told last.
        bringsOf(ring("smith 9 1;pair 0 12;saying 1;saying 2;saying 6"), 0, 12, 2, 2);
    }

    private static void firstBrought() {
        // 12 by 1, 1, 5 and 5: the least ones come first.
        bringsOf(ring("smith 9 1;pair 0 12;saying 5;saying 1"), 0, 12, 4, 0);
        bringsOf(ring("smith 9 1;pair 0 12;saying 1;saying 5"), 0, 12, 4, 0);
        // Of 10 by 4 and 6 alone 9 is no part.
        bringsOf(ring("smith 9 1;pair 0 10;saying 9;saying 4;saying 6"), 0, 10, 2, 1);
        // Alike: the least number; but not one that does not hurt.
        bringsOf(ring("smith 9 1;pair 0 8;saying 0;saying 4;saying 4"), 0, 8, 2, 1);
        // By 6 first there would be a ROW too early: 2, then 6.
        bringsOf(ring("smith 9 1;pair 0 6;saying 6;saying 2"), 0, 8, 2, 1);
    }

    private static void broughtByNone() {
        bringsOf(ring("smith 9 1;pair 9 1"), 0, 9, -2, -2);
        bringsOf(ring("smith 9 1;pair 0 1;saying 0"), 0, 1, -2, -2);
        bringsOf(ring("smith 9 1;pair 99 1;saying 9"), 0, 98, -2, -2);
        bringsOf(ring("smith 9 1;pair 99 1;saying 9"), 0, 109, -2, -2);
        bringsOf(ring("smith 9 1;pair 0 99;saying 2"), 0, 120, -2, -2);
    }

    private static void noBring() {
        RowRing r = banded();
        due("with a BAND", r.bring(0, 5, 0), NONE);
        due("with a BAND", r.bring(0, 5, 1), NONE);
        beside("bring(.., 5, 0)", p -> r.bring(p, 5, 0), 0, 1, NONE);
        beside("bring(1, 5, ..)", what -> r.bring(1, 5, what), 0, 1, NONE);
        due("without a SMITHY", new RowRing().bring(0, 1, 0), NONE);
    }

    // ---- 17 ----

    private static void smooth() {
        sentence(17, "SMOOTH of a PAIR with a BAND: on which DAY it is.", AskedBoundaries::smoothDays);
        sentence(17, "SMOOTH; NONE without these", AskedBoundaries::noSmooth);
    }

    private static void smoothDays() {
        RowRing r = ring("smith 99 9;pair 1 1;pair 9 1;pair 10 1;pair 18 1;pair 19 1;saying 0", "say 0");
        int[] want = {9, 9, 19, 19, 29};
        for (int p = 0; p < 5; p++) {
            r.say(p, 0);
        }
        for (int p = 0; p < 5; p++) {
            due("smooth of " + p + " on DAY 0", r.smooth(p), want[p]);
        }
        days(r, 9);
        for (int p = 0; p < 5; p++) {
            due("smooth of " + p + " on DAY 9", r.smooth(p), want[p]);
        }
        r.day();
        for (int p = 0; p < 5; p++) {
            due("smooth of " + p + " on DAY 10", r.smooth(p), p < 2 ? NONE : want[p]);
        }
        RowRing widest = ring("smith 99 1;pair 99 1;saying 0");
        widest.say(0, 0);
        due("the latest from DAY 0 on", widest.smooth(0), 989);
    }

    private static void noSmooth() {
        RowRing r = banded();
        due("without a BAND", r.smooth(1), NONE);
        beside("smooth", r::smooth, 0, 1, NONE);
        due("without a SMITHY", new RowRing().smooth(0), NONE);
    }

    // ---- 18 ----

    private static void strike() {
        sentence(18, "STRIKE for n DAYS (1 to 30)", AskedBoundaries::strikeDays);
        sentence(18, "the fewest SAYINGS that nobody says any more from now on (by DAYS), so that no ROW comes in "
            + "these: how many", AskedBoundaries::fewestStruck);
        sentence(18, "of several sets the least as bits", AskedBoundaries::leastStruck);
        sentence(18, "NONE without these, or a SMITHY", AskedBoundaries::noStrike);
    }

    private static void strikesOf(RowRing r, int n, int set) {
        due("strike(" + n + ", 0)", r.strike(n, 0), Integer.bitCount(set));
        due("strike(" + n + ", 1)", r.strike(n, 1), set);
    }

    private static void strikeDays() {
        strikesOf(ring(ONE), 1, 1);
        RowRing last = ring(ONE, "say 1 if day = 29");
        strikesOf(last, 29, 0);
        strikesOf(last, 30, 1);
        strikesOf(ring(ONE, "say 1 if day = 30"), 30, 0);
        for (int what = 0; what < 2; what++) {
            int asked = what;
            beside("strike(.., " + what + ")", n -> last.strike(n, asked), 1, 30, NONE);
        }
    }

    private static void fewestStruck() {
        strikesOf(ring("smith 9 1;pair 0 9;saying 1"), 30, 0);
        strikesOf(ring("smith 9 1;pair 9 1"), 30, 0);
        strikesOf(ring("smith 9 1;saying 9"), 30, 0);
        strikesOf(ring("smith 9 1;pair 0 1;saying 1;saying 2;saying 3;saying 4;saying 5;saying 6"), 1, 63);
        // Who would say what is struck says the next.
        strikesOf(ring("smith 9 1;pair 0 5;saying 5;saying 1;saying 6"), 1, 5);
        RowRing r = banded();
        strikesOf(r, 30, 1);
    }

    private static void leastStruck() {
        // PAIR 0 says each once; only all that are told bring the ROW.
        strikesOf(ring("smith 9 1;pair 0 7;saying 3;saying 3;saying 3", "say 1 if said = 0"), 5, 1);
        // Without 2 alone, or without 0 and 1, there is none: the fewer, though more as bits.
        strikesOf(ring("smith 9 1;pair 0 7;saying 3;saying 3;saying 5", "say 1 if said = 0"), 5, 4);
        // Two must go, any two of three: 0 and 1.
        strikesOf(ring("smith 9 1;pair 0 5;saying 3;saying 3;saying 3", "say 1 if said = 0"), 5, 3);
    }

    private static void noStrike() {
        RowRing r = ring(ONE);
        beside("strike(1, ..)", what -> r.strike(1, what), 0, 1, NONE);
        due("without a SMITHY", new RowRing().strike(1, 0), NONE);
        due("without a SMITHY", new RowRing().strike(1, 1), NONE);
    }

    // ---- 19 ----

    private static void home() {
        sentence(19, "HOME for n DAYS (1 to 30)", AskedBoundaries::homeDays);
        sentence(19, "the PAIR that had best stay at home from now on (it says nothing, hears nothing), or none, so "
            + "that most ROWS come in these", AskedBoundaries::mostAtHome);
        sentence(19, "of several none, then the least; how many.", AskedBoundaries::leastAtHome);
        sentence(19, "HOME what 0: which (NONE: none), 1: how many. -2 without these, or a SMITHY.",
            AskedBoundaries::noHome);
    }

    private static void homeOf(RowRing r, int n, int which, int many) {
        due("home(" + n + ", 0)", r.home(n, 0), which);
        due("home(" + n + ", 1)", r.home(n, 1), many);
    }

    private static void homeDays() {
        homeOf(ring(ONE), 1, NONE, 1);
        RowRing last = ring(ONE, "say 1 if day = 29");
        homeOf(last, 29, NONE, 0);
        homeOf(last, 30, NONE, 1);
        homeOf(ring(ONE, "say 1 if day = 30"), 30, NONE, 0);
        for (int what = 0; what < 2; what++) {
            int asked = what;
            beside("home(.., " + what + ")", n -> last.home(n, asked), 1, 30, -2);
        }
    }

    private static void mostAtHome() {
        String quiet = "say 1 if bands = 0";
        // PAIR 0 breaks first, and all are silent; if it says nothing, 2 and 3 break.
        homeOf(ring("smith 9 1;pair 0 4;pair 0 99;pair 0 9;pair 0 4;saying 9;near 0 1;near 2 3", quiet), 1, 0, 2);
        // PAIR 1 hears it and breaks, and all are silent; if it hears nothing, 2 and 3 break.
        homeOf(ring("smith 9 1;pair 0 99;pair 0 4;pair 0 9;pair 0 4;saying 9;near 0 1;near 2 3", quiet), 1, 1, 2);
        // The last of five: if 4 hears nothing of 0, 1 has its turn and breaks, and 2 by hearing that.
        homeOf(ring("smith 9 1;pair 0 99;pair 0 13;pair 0 4;pair 0 99;pair 0 4;saying 9;near 0 1;near 1 2;near 0 4",
            quiet), 1, 4, 2);
        RowRing r = banded();
        homeOf(r, 1, NONE, 0);
    }

    private static void leastAtHome() {
        // PAIR 2 hears 2 of each; having heard one alone, it says what breaks it.
        RowRing r = ring("smith 9 1;pair 0 99;pair 0 99;pair 0 6;saying 4;near 0 2;near 1 2",
            "say 1 if pair < 2;say 1 if temper < 3");
        homeOf(r, 1, 0, 1);
        // None is as good as any.
        homeOf(ring("smith 9 1;pair 0 99;pair 0 99;saying 1"), 30, NONE, 0);
        homeOf(ring("smith 9 1;pair 0 5;pair 0 99;saying 5"), 1, NONE, 1);
    }

    private static void noHome() {
        RowRing r = ring(ONE);
        beside("home(1, ..)", what -> r.home(1, what), 0, 1, -2);
        due("without a SMITHY", new RowRing().home(1, 0), -2);
        due("without a SMITHY", new RowRing().home(1, 1), -2);
        homeOf(ring("smith 9 1"), 30, NONE, 0);
    }

    // ---- 20 ----

    private static void benches() {
        sentence(20, "BENCHES: the fewest BENCHES, so that no two PAIRS near each other sit on one: how many",
            AskedBoundaries::fewestBenches);
        sentence(20, "the first row of benches (of PAIR 0, then 1, ..: least numbers first)",
            AskedBoundaries::firstBenches);
        sentence(20, "BENCHES what NONE: how many, 0 to 4: the bench of that PAIR (-2: there is none such).",
            AskedBoundaries::noSuchBench);
        sentence(20, "-3 for others, or without a SMITHY", AskedBoundaries::noBenches);
    }

    private static void fewestBenches() {
        String all = ";near 0 1;near 0 2;near 0 3;near 0 4;near 1 2;near 1 3;near 1 4;near 2 3;near 2 4";
        due("none is near", ring(FIVE).benches(NONE), 1);
        due("all but two are near", ring(FIVE + all).benches(NONE), 4);
        due("all are near", ring(FIVE + all + ";near 3 4").benches(NONE), 5);
        due("round about", ring(FIVE + ";near 0 1;near 1 2;near 2 3;near 3 4;near 4 0").benches(NONE), 3);
        due("one PAIR", ring("smith 1 1;pair 0 1").benches(NONE), 1);
        due("no PAIRS", ring("smith 1 1").benches(NONE), 0);
    }

    private static void rowOf(String smithy, int... row) {
        RowRing r = ring(smithy);
        for (int p = 0; p < row.length; p++) {
            due("benches(" + p + ") of " + smithy, r.benches(p), row[p]);
        }
    }

    private static void firstBenches() {
        rowOf(FIVE, 0, 0, 0, 0, 0);
        rowOf(FIVE + ";near 0 1;near 1 2;near 2 3;near 3 4;near 4 0", 0, 1, 0, 1, 2);
        rowOf(FIVE + ";near 4 0", 0, 0, 0, 0, 1);
        // Each on the least bench that is free would take three; the first row of two is another.
        rowOf("smith 1 1;pair 0 1;pair 0 1;pair 0 1;pair 0 1;near 0 2;near 2 3;near 3 1", 0, 1, 1, 0);
        rowOf("smith 1 1;pair 0 1;pair 0 1;near 0 1", 0, 1);
    }

    private static void noSuchBench() {
        rowOf("smith 1 1", -2, -2, -2, -2, -2);
        rowOf("smith 1 1;pair 0 1;pair 0 1", 0, 0, -2, -2, -2);
        rowOf(FIVE + ";near 3 4", 0, 0, 0, 0, 1);
    }

    private static void noBenches() {
        RowRing r = ring(FIVE);
        beside("benches", r::benches, NONE, 4, -3);
        for (int what = NONE; what < 5; what++) {
            due("benches(" + what + ") without a SMITHY", new RowRing().benches(what), -3);
        }
    }

    // ---- 21 ----

    private static void gold() {
        sentence(21, "GOLD (0 to 9999) among PAIRS that have BANDS, by how wide these are: each the part downwards",
            AskedBoundaries::goldDownwards);
        sentence(21, "what is left, one each, to those whose part lost most by that, of several the least first",
            AskedBoundaries::goldLeft);
        sentence(21, "GOLD of a PAIR (0, if it has no BAND)", AskedBoundaries::goldOfNone);
        sentence(21, "NONE without these", AskedBoundaries::noGold);
    }

    /** A ring whose pairs have bands so wide; 0 has none. */
    private static RowRing bands(int... wide) {
        StringBuilder smithy = new StringBuilder("smith 99 1");
        for (int w : wide) {
            smithy.append(";pair ").append(w).append(" ").append(w == 0 ? 99 : w);
        }
        RowRing r = ring(smithy + ";saying 0");
        for (int p = 0; p < wide.length; p++) {
            r.say(p, 0);
        }
        return r;
    }

    private static void goldOf(RowRing r, int much, int... want) {
        for (int p = 0; p < want.length; p++) {
            due("gold(" + much + ", " + p + ")", r.gold(much, p), want[p]);
        }
    }

    private static void goldDownwards() {
        goldOf(bands(1, 2, 4), 0, 0, 0, 0);
        goldOf(bands(1, 2, 4), 7, 1, 2, 4);
        goldOf(bands(1, 2, 4), 9996, 1428, 2856, 5712);
        goldOf(bands(99), 9999, 9999);
        goldOf(bands(1), 9999, 9999);
        goldOf(bands(0, 1), 7, 0, 7);
        goldOf(bands(99, 0, 99), 9998, 4999, 0, 4999);
        RowRing r = bands(1, 2);
        beside("gold(.., 0)", much -> r.gold(much, 0), 0, 9999, NONE);
    }

    private static void goldLeft() {
        // Of 5 the parts are 5, 10 and 20 sevenths: 0, 1, 2, and 2 are left, to those that lost 6 and 5.
        goldOf(bands(1, 2, 4), 5, 1, 1, 3);
        goldOf(bands(4, 4, 4), 10, 4, 3, 3);
        goldOf(bands(4, 4, 4), 11, 4, 4, 3);
        goldOf(bands(4, 4, 4), 12, 4, 4, 4);
        goldOf(bands(99, 99, 99, 99, 99), 9999, 2000, 2000, 2000, 2000, 1999);
        goldOf(bands(99, 99, 99, 99, 99), 1, 1, 0, 0, 0, 0);
        goldOf(bands(0, 4, 0, 4), 1, 0, 1, 0, 0);
        goldOf(bands(1, 99), 1, 0, 1);
        // The parts of 99 are 98 and 0, and the thin one lost 99 of 100.
        goldOf(bands(99, 1), 99, 98, 1);
    }

    private static void goldOfNone() {
        goldOf(ring(TWO), 9999, 0, 0);
        goldOf(bands(0, 3), 9999, 0, 9999);
        RowRing smooth = ring(TWO, "say 0");
        smooth.say(0, 0);
        goldOf(smooth, 100, 100, 0);
        days(smooth, 50);
        due("how wide", smooth.count(9), 0);
        goldOf(smooth, 100, 0, 0);
    }

    private static void noGold() {
        RowRing r = banded();
        beside("gold(1, ..)", p -> r.gold(1, p), 0, 1, NONE);
        beside("gold(.., 1)", much -> r.gold(much, 1), 0, 9999, NONE);
        due("without a SMITHY", new RowRing().gold(0, 0), NONE);
        due("without PAIRS", ring("smith 1 1").gold(0, 0), NONE);
    }

    // ---- 22 ----

    private static void heard() {
        sentence(22, "HEARD of a SAYING by a PAIR without a BAND now: how many ROWS would come by it",
            AskedBoundaries::rowsHeard);
        sentence(22, "the PAIR of the largest SIZE of these, of several the least", AskedBoundaries::largestHeard);
        sentence(22, "1: which (-2: none)", AskedBoundaries::noneHeard);
        sentence(22, "NONE without these", AskedBoundaries::noHeard);
    }

    private static void heardOf(RowRing r, int pair, int saying, int many, int which) {
        due("heard(" + pair + ", " + saying + ", 0)", r.heard(pair, saying, 0), many);
        due("heard(" + pair + ", " + saying + ", 1)", r.heard(pair, saying, 1), which);
    }

    private static void rowsHeard() {
        String all = ";near 0 1;near 0 2;near 0 3;near 0 4";
        heardOf(ring("smith 9 1;pair 0 9;pair 0 4;pair 0 4;pair 0 4;pair 0 4;saying 9" + all), 0, 0, 5, 0);
        heardOf(ring("smith 9 1;pair 0 9;pair 0 4;pair 0 4;pair 0 4;pair 0 4;saying 9"), 0, 0, 1, 0);
        // TEMPER is BREAKS already: a ROW, though what they hear be nothing.
        heardOf(ring("smith 9 1;pair 0 9;pair 4 4;saying 0;near 0 1"), 0, 0, 1, 1);
        // One with a BAND hears nothing.
        RowRing r = ring("smith 9 1;pair 0 9;pair 0 4;saying 9;near 0 1");
        heardOf(r, 0, 0, 2, 0);
        r.say(1, 0);
        heardOf(r, 0, 0, 1, 0);
    }

    private static void largestHeard() {
        // SIZES are 2, 5 and 5, all above WIDEST.
        heardOf(ring("smith 1 1;pair 0 99;pair 0 2;pair 3 2;pair 3 2;saying 5;near 0 1;near 0 2;near 0 3"), 0, 0, 3, 2);
        // 0 hears 2 and comes to 5, as 1, who says it, does.
        heardOf(ring("smith 9 1;pair 3 5;pair 0 5;saying 5;near 0 1"), 1, 0, 2, 0);
        heardOf(ring("smith 9 1;pair 2 4;pair 0 5;saying 5;near 0 1"), 1, 0, 2, 1);
        // The least SIZE that there is.
        heardOf(ring("smith 9 1;pair 0 9;pair 0 1;saying 2;near 0 1"), 0, 0, 1, 1);
    }

    private static void noneHeard() {
        heardOf(ring("smith 9 1;pair 0 6;pair 0 3;saying 5;near 0 1"), 0, 0, 0, -2);
        // Another above BREAKS who does not hear it has none.
        heardOf(ring("smith 9 1;pair 0 6;pair 9 3;saying 5"), 0, 0, 0, -2);
    }

    private static void noHeard() {
        RowRing r = banded();
        due("with a BAND", r.heard(0, 0, 0), NONE);
        due("with a BAND", r.heard(0, 0, 1), NONE);
        beside("heard(.., 0, 0)", p -> r.heard(p, 0, 0), 0, 1, NONE);
        beside("heard(1, .., 0)", s -> r.heard(1, s, 0), 0, 1, NONE);
        beside("heard(1, 0, ..)", what -> r.heard(1, 0, what), 0, 1, NONE);
        due("without a SMITHY", new RowRing().heard(0, 0, 0), NONE);
        due("without SAYINGS", ring("smith 1 1;pair 0 1").heard(0, 0, 0), NONE);
    }

    // ---- 23 ----

    private static void game() {
        sentence(23, "GAME of smith and a PAIR without a BAND for n turns (1 to 4)", AskedBoundaries::turns);
        sentence(23, "he has them SAY a SAYING (nobody hears), or leaves the DOOR open for them alone (TEMPER 3 more)",
            AskedBoundaries::alone);
        sentence(23, "they are SOOTHED by 5 (as far as they have it), or do nothing", AskedBoundaries::soothedByFive);
        sentence(23, "as soon as TEMPER is BREAKS or more behind a turn it is over", AskedBoundaries::gameOver);
        sentence(23, "the smith wants TEMPER then, or behind the last turn, most, they least, if both do their best: "
            + "how much", AskedBoundaries::bothDoTheirBest);
        sentence(23, "what the smith does first (SAYINGS by numbers, the DOOR behind all of them; the first that does)",
            AskedBoundaries::firstDone);
        sentence(23, "NONE without these", AskedBoundaries::noGame);
    }

    private static void gameOf(RowRing r, int pair, int n, int much, int first) {
        due("game(" + pair + ", " + n + ", 0)", r.game(pair, n, 0), much);
        due("game(" + pair + ", " + n + ", 1)", r.game(pair, n, 1), first);
    }

    private static void turns() {
        RowRing r = ring("smith 9 1;pair 30 99;saying 9");
        // 39; 34; 43; 38: he, they, he, they.
        gameOf(r, 0, 1, 39, 0);
        gameOf(r, 0, 2, 34, 0);
        gameOf(r, 0, 3, 43, 0);
        gameOf(r, 0, 4, 38, 0);
        // By the DOOR alone, the third turn included: 23, 18, 21, 16.
        RowRing door = ring("smith 9 1;pair 20 99;saying 2");
        gameOf(door, 0, 1, 23, 1);
        gameOf(door, 0, 2, 18, 1);
        gameOf(door, 0, 3, 21, 1);
        gameOf(door, 0, 4, 16, 1);
        for (int what = 0; what < 2; what++) {
            int asked = what;
            beside("game(0, .., " + what + ")", n -> r.game(0, n, asked), 1, 4, NONE);
        }
    }

    private static void alone() {
        RowRing r = ring("smith 9 1;pair 0 9;pair 0 1;saying 2;near 0 1");
        gameOf(r, 0, 1, 3, 1);
        due("TEMPER of the other", r.pair(1, 0), 0);
        gameOf(r, 1, 1, 3, 1);
        gameOf(ring("smith 99 1;pair 99 99;saying 9;minds 0 0 20"), 0, 1, 128, 0);
    }

    private static void soothedByFive() {
        int[] want = {0, 0, 0, 1, 2};
        for (int temper = 0; temper < 5; temper++) {
            // The DOOR makes 3 to 7 of it.
            gameOf(ring("smith 9 1;pair " + temper + " 99"), 0, 2, want[temper], 0);
        }
        // Above 0 less is always better for them, so to do nothing is never needed; at 0 both are the same.
        gameOf(ring("smith 9 1;pair 0 99;saying 0"), 0, 2, 0, 0);
    }

    private static void gameOver() {
        // At BREAKS it is over ahead of their turn, just below it is not.
        gameOf(ring("smith 9 1;pair 0 3"), 0, 2, 3, 0);
        gameOf(ring("smith 9 1;pair 0 4"), 0, 2, 0, 0);
        gameOf(ring("smith 9 1;pair 0 3"), 0, 4, 3, 0);
        // It was so ahead of the first turn: it is over behind that.
        gameOf(ring("smith 9 1;pair 30 10;saying 9"), 0, 4, 39, 0);
        gameOf(ring("smith 9 1;pair 10 10;saying 0"), 0, 4, 13, 1);
        // Behind the third turn.
        gameOf(ring("smith 9 1;pair 5 13;saying 7"), 0, 4, 14, 0);
        gameOf(ring("smith 9 1;pair 5 15;saying 7"), 0, 4, 9, 0);
    }

    private static void bothDoTheirBest() {
        // 10 at once, and it is over; or 9, soothed to 4, and then 14.
        RowRing r = ring("smith 99 1;pair 0 10;saying 9;saying 9;minds 0 1 1");
        gameOf(r, 0, 1, 10, 1);
        gameOf(r, 0, 2, 10, 1);
        gameOf(r, 0, 3, 14, 0);
        gameOf(r, 0, 4, 14, 0);
    }

    private static void firstDone() {
        gameOf(ring("smith 9 1;pair 0 9"), 0, 1, 3, 0);
        gameOf(ring("smith 9 1;pair 0 9;saying 3"), 0, 1, 3, 0);
        gameOf(ring("smith 9 1;pair 0 9;saying 2;saying 4;saying 4"), 0, 1, 4, 1);
        gameOf(ring("smith 9 1;pair 0 9;saying 0;saying 0;saying 0;saying 0;saying 0;saying 2"), 0, 1, 3, 6);
        // All come to 0 behind two turns: the first of all.
        gameOf(ring("smith 9 1;pair 0 9;saying 2;saying 4"), 0, 2, 0, 0);
    }

    private static void noGame() {
        RowRing r = banded();
        due("with a BAND", r.game(0, 1, 0), NONE);
        due("with a BAND", r.game(0, 1, 1), NONE);
        beside("game(.., 1, 0)", p -> r.game(p, 1, 0), 0, 1, NONE);
        beside("game(1, 1, ..)", what -> r.game(1, 1, what), 0, 1, NONE);
        due("without a SMITHY", new RowRing().game(0, 1, 0), NONE);
    }

    // ---- 24 ----

    private static void spark() {
        sentence(24, "SPARK of a PAIR without a BAND: the fewest SAYINGS said by them now, one behind the other (no "
            + "DAY goes by, nobody hears), by which a ROW of any SIZE comes.", AskedBoundaries::sparks);
        sentence(24, "-2: by none", AskedBoundaries::sparkByNone);
        sentence(24, "NONE without these", AskedBoundaries::noSpark);
    }

    private static void sparkOf(String smithy, int want) {
        due("spark of " + smithy, ring(smithy).spark(0), want);
    }

    private static void sparks() {
        sparkOf("smith 9 1;pair 1 9;saying 4", 2);
        sparkOf("smith 9 1;pair 0 9;saying 4", 3);
        sparkOf("smith 9 1;pair 0 9;saying 9", 1);
        sparkOf("smith 9 1;pair 0 9;saying 8", 2);
        sparkOf("smith 9 1;pair 0 99;saying 1;saying 0", 99);
        sparkOf("smith 9 1;pair 0 99;saying 9;minds 0 0 20", 4);
        // TEMPER is BREAKS or more already: one is needed all the same, and any will do.
        sparkOf("smith 9 1;pair 9 9;saying 0", 1);
        sparkOf("smith 9 1;pair 99 1;saying 9", 1);
    }

    private static void sparkByNone() {
        sparkOf("smith 9 1;pair 8 9;saying 0", -2);
        sparkOf("smith 9 1;pair 99 1", -2);
        due("another PAIR minds it", ring("smith 9 1;pair 0 9;pair 0 9;saying 0;minds 1 0 9").spark(0), -2);
    }

    private static void noSpark() {
        RowRing r = banded();
        due("with a BAND", r.spark(0), NONE);
        beside("spark", r::spark, 0, 1, NONE);
        due("without a SMITHY", new RowRing().spark(0), NONE);
    }

    // ---- 25 ----

    private static void calm() {
        sentence(25, "CALM for n DAYS (1 to 30)", AskedBoundaries::calmDays);
        sentence(25, "the PAIR whose TEMPER were best 0 now, or none, so that fewest ROWS come in these",
            AskedBoundaries::bestCalm);
        sentence(25, "of several none, then the least; how many.", AskedBoundaries::leastCalm);
        sentence(25, "CALM what 0: which (NONE: none), 1: how many. -2 without these, or a SMITHY.",
            AskedBoundaries::noCalm);
    }

    private static void calmOf(RowRing r, int n, int which, int many) {
        due("calm(" + n + ", 0)", r.calm(n, 0), which);
        due("calm(" + n + ", 1)", r.calm(n, 1), many);
    }

    private static void calmDays() {
        String smithy = "smith 9 1;pair 40 15;saying 9";
        calmOf(ring(smithy), 1, 0, 0);
        RowRing last = ring(smithy, "say 1 if day = 29");
        calmOf(last, 29, NONE, 0);
        calmOf(last, 30, 0, 0);
        calmOf(ring(smithy, "say 1 if day = 30"), 30, NONE, 0);
        for (int what = 0; what < 2; what++) {
            int asked = what;
            beside("calm(.., " + what + ")", n -> last.calm(n, asked), 1, 30, -2);
        }
    }

    private static void bestCalm() {
        // 0, not 1: with 5 more it does not break.
        calmOf(ring("smith 9 1;pair 1 6;saying 5"), 1, 0, 0);
        // PAIR 1 does best: it does not break then, and so 2 says nothing.
        calmOf(ring("smith 9 1;pair 9 10;pair 9 10;pair 9 9;saying 1;saying 0", "say 1 if pair = 1 and saying = 0;say 1"
            + " if pair = 2 and saying = 1 and bands > 0"), 1, 1, 0);
    }

    private static void leastCalm() {
        calmOf(ring("smith 9 1;pair 0 99;pair 9 10;pair 9 10;saying 1"), 1, 1, 1);
        calmOf(ring("smith 9 1;pair 9 99;pair 9 99;saying 1"), 1, NONE, 0);
        // The last of five.
        calmOf(ring("smith 9 1;pair 0 99;pair 0 99;pair 0 99;pair 0 99;pair 9 10;saying 1"), 1, 4, 0);
        // Be its TEMPER 0 or not, it breaks.
        calmOf(ring("smith 9 1;pair 4 5;saying 5"), 1, NONE, 1);
        RowRing r = banded();
        calmOf(r, 1, NONE, 0);
    }

    private static void noCalm() {
        RowRing r = ring(ONE);
        beside("calm(1, ..)", what -> r.calm(1, what), 0, 1, -2);
        due("without a SMITHY", new RowRing().calm(1, 0), -2);
        due("without a SMITHY", new RowRing().calm(1, 1), -2);
        calmOf(ring("smith 9 1"), 30, NONE, 0);
    }

    // ---- 26 ----

    private static void largest() {
        sentence(26, "LARGEST for n DAYS (1 to 60)", AskedBoundaries::largestDays);
        sentence(26, "of all ROWS in these the one of the largest SIZE, of several the first DAY, then the least PAIR: "
            + "who; its SIZE; the DAY.", AskedBoundaries::firstLargest);
        sentence(26, "-2: there is none", AskedBoundaries::noneLargest);
        sentence(26, "NONE without these, or a SMITHY", AskedBoundaries::noLargest);
    }

    private static void largestOf(RowRing r, int n, int... want) {
        for (int what = 0; what < 3; what++) {
            due("largest(" + n + ", " + what + ")", r.largest(n, what), want[want.length == 1 ? 0 : what]);
        }
    }

    private static void largestDays() {
        largestOf(ring(ONE), 1, 0, 5, 0);
        largestOf(ring("smith 9 1;pair 0 1;saying 1"), 1, 0, 1, 0);
        RowRing last = ring(ONE, "say 1 if day = 59");
        largestOf(last, 59, -2);
        largestOf(last, 60, 0, 5, 59);
        largestOf(ring(ONE, "say 1 if day = 60"), 60, -2);
        for (int what = 0; what < 3; what++) {
            int asked = what;
            beside("largest(.., " + what + ")", n -> last.largest(n, asked), 1, 60, NONE);
        }
    }

    private static void firstLargest() {
        // PAIRS 1 and 2 break with 5 on DAY 0, and again on DAY 10.
        String ten = "smith 1 1;pair 0 99;pair 0 5;pair 0 5;saying 5";
        largestOf(ring(ten, "say 1 if pair > 0"), 20, 1, 5, 0);
        // PAIR 2 alone on DAY 0, PAIR 1 on DAY 1.
        largestOf(ring(ten, "say 1 if pair + day = 2"), 20, 2, 5, 0);
        // PAIR 1 breaks ahead of 0 on the same DAY.
        largestOf(ring("smith 9 1;pair 3 5;pair 0 5;pair 0 99;saying 5;near 0 2", "say 1 if pair > 0"), 1, 0, 5, 0);
        // A larger one comes later; all are wider than WIDEST.
        largestOf(ring("smith 1 1;pair 0 5;pair 0 6;saying 5", "say 1"), 9, 1, 9, 1);
        RowRing later = ring("smith 1 1;pair 99 99;saying 9;minds 0 0 20", "say 1 if day = 3");
        later.soothe(0, 1);
        days(later, 2);
        // Of 98 there are 95 left on DAY 3.
        largestOf(later, 2, 0, 124, 3);
    }

    private static void noneLargest() {
        largestOf(ring("smith 9 1"), 60, -2);
        largestOf(ring("smith 9 1;pair 99 1"), 60, -2);
        // ROWS so far are not in these.
        RowRing r = banded();
        largestOf(r, 9, -2);
    }

    private static void noLargest() {
        RowRing r = ring(ONE);
        beside("largest(1, ..)", what -> r.largest(1, what), 0, 2, NONE);
        for (int what = 0; what < 3; what++) {
            due("without a SMITHY", new RowRing().largest(1, what), NONE);
        }
    }
}
