/** Promises 27 to 34: what the document says of the boundary cases of notes, draws, counts and images. */
final class KeptBoundaries extends Boundaries {
    private static final String ONE = "smith 9 1;pair 0 5;saying 5";
    private static final String TWO = "smith 9 1;pair 0 99;pair 0 5;saying 5";
    private static final String SIX = "smith 99 1;pair 0 4;saying 4;saying 5;saying 6;saying 7;saying 8;saying 9";
    // Any door that is left open makes a row.
    private static final String LATCH = "smith 9 1;pair 0 3;saying 0";

    private KeptBoundaries() {
    }

    static void test() {
        note();
        ruled();
        look();
        seed();
        doors();
        count();
        image();
        back();
    }

    /** By none a band of 9 behind the first day, by the rules one of 4, 5, 6, 7, 8 and 9. */
    private static RowRing six() {
        return ring(SIX, "say 1", "say 1 if saying = 1", "say 1 if saying = 2", "say 1 if saying = 3",
            "say 1 if saying = 4", "say 1 if saying = 5");
    }

    // ---- 27 ----

    private static void note() {
        sentence(27, "NOTES 0 to 9, told: behind the n-th DAY of all (0 to 60) a PAIR had a BAND so wide (0: none; 0 "
            + "to 99).", KeptBoundaries::notesTold);
        sentence(27, "A NOTE (n NONE: there are none then, 0): how many", KeptBoundaries::notesGone);
        sentence(27, "-2, and nothing happens, without these, or if there are 10", KeptBoundaries::noNote);
    }

    private static void notesTold() {
        RowRing r = ring(TWO);
        due("note(0, 0, 0)", r.note(0, 0, 0), 1);
        due("note(60, 1, 99)", r.note(60, 1, 99), 2);
        due("wider than WIDEST", r.note(1, 1, 10), 3);
        RowRing n = ring(TWO);
        for (int day : new int[] {-2, 61, LOWEST, HIGHEST}) {
            refused(n, "note(" + day + ", 0, 0)", () -> n.note(day, 0, 0), -2);
        }
        for (int wide : new int[] {-1, 100, LOWEST, HIGHEST}) {
            refused(n, "note(0, 0, " + wide + ")", () -> n.note(0, 0, wide), -2);
        }
    }

    private static void notesGone() {
        RowRing r = ring(TWO);
        due("of none", r.note(NONE, 0, 0), 0);
        for (int i = 1; i <= 10; i++) {
            due("note " + i, r.note(i, 1, i), i);
        }
        due("none then, whatever PAIR and width are", r.note(NONE, HIGHEST, LOWEST), 0);
        due("NOTES", r.count(10), 0);
        due("all is so again", r.ruled(0), 1);
        due("the first again", r.note(0, 0, 0), 1);
        due("without a SMITHY", new RowRing().note(NONE, 0, 0), 0);
    }

    private static void noNote() {
        RowRing none = new RowRing();
        refused(none, "note without a SMITHY", () -> none.note(0, 0, 0), -2);
        RowRing r = ring(TWO);
        for (int pair : new int[] {-1, 2, 5, LOWEST, HIGHEST}) {
            refused(r, "note(0, " + pair + ", 0)", () -> r.note(0, pair, 0), -2);
        }
        RowRing full = ring(TWO);
        for (int i = 0; i < 9; i++) {
            full.note(0, 1, 5);
        }
        due("the tenth", full.note(0, 1, 5), 10);
        // Were it taken, none would be so.
        refused(full, "the eleventh", () -> full.note(0, 1, 0), -2);
        due("ruled", full.ruled(0), 1);
        RowRing last = ring(TWO);
        for (int i = 0; i < 9; i++) {
            last.note(0, 1, 5);
        }
        due("the tenth, which is not so", last.note(0, 1, 0), 10);
        due("ruled", last.ruled(0), 0);
    }

    // ---- 28 ----

    private static void ruled() {
        sentence(28, "RULED: which of the RULES, and of none, so that from the begin on, all as the text told it, all "
            + "NOTES are so: how many", KeptBoundaries::fromBegin);
        sentence(28, "behind the n-th DAY of all (0 to 60)", KeptBoundaries::behindDays);
        sentence(28, "the first (none ahead of 0, told as NONE)", KeptBoundaries::firstRuled);
        sentence(28, "RULED what 0: how many, 1: the first (NONE: none; -2: there is none such).",
            KeptBoundaries::noneRuled);
        sentence(28, "-3 for others, or without a SMITHY", KeptBoundaries::noRuled);
    }

    private static void fromBegin() {
        RowRing all = six();
        due("without NOTES all are so", all.ruled(0), 7);
        due("no RULES: none alone", ring(TWO).ruled(0), 1);
        due("no PAIRS, no NOTES", ring("smith 1 1", "say 1").ruled(0), 2);
        all.note(0, 0, 9);
        due("none and RULE 5", all.ruled(0), 2);
        // What was done by hand, and the RULE IN FORCE, are nothing to it.
        RowRing r = ring(TWO, "say 0");
        r.soothe(0, 1);
        r.say(1, 0);
        r.door();
        days(r, 3);
        r.note(0, 1, 0);
        due("RULE 0 from the begin on", r.ruled(1), 0);
        due("RULE 0 alone", r.ruled(0), 1);
    }

    private static void behindDays() {
        RowRing first = ring("smith 9 1;pair 0 5;saying 5", "say 1 if day = 1");
        first.note(0, 0, 5);
        due("DAY 0 has gone by", first.ruled(1), NONE);
        first.note(1, 0, 5);
        first.note(8, 0, 5);
        first.note(9, 0, 4);
        due("behind DAY 9 it is worn", first.ruled(0), 1);
        first.note(9, 0, 5);
        due("it can't be both", first.ruled(0), 0);
        RowRing last = ring(ONE, "say 1 if day = 60", "say 1 if day = 61");
        last.note(59, 0, 0);
        due("none ahead of DAY 60", last.ruled(0), 2);
        last.note(60, 0, 5);
        due("behind DAY 60", last.ruled(0), 1);
        due("behind DAY 60", last.ruled(1), 0);
    }

    private static void firstRuled() {
        RowRing r = six();
        due("none ahead of 0", r.ruled(1), NONE);
        r.note(0, 0, 9);
        due("none ahead of 5", r.ruled(1), NONE);
        for (int rule = 0; rule < 5; rule++) {
            r.note(NONE, 0, 0);
            r.note(0, 0, 4 + rule);
            due("RULE " + rule + " alone", r.ruled(1), rule);
            due("RULE " + rule + " alone", r.ruled(0), 1);
        }
        RowRing two = ring(ONE, "say 0", "say 0");
        two.note(0, 0, 0);
        due("of two the first", two.ruled(1), 0);
        due("of two the first", two.ruled(0), 2);
    }

    private static void noneRuled() {
        RowRing r = six();
        r.note(0, 0, 10);
        due("how many", r.ruled(0), 0);
        due("there is none such", r.ruled(1), -2);
        r.note(NONE, 0, 0);
        due("none: NONE", r.ruled(1), NONE);
        RowRing wide = ring(ONE);
        wide.note(0, 0, 99);
        due("there is none such, without RULES", wide.ruled(1), -2);
    }

    private static void noRuled() {
        RowRing r = six();
        beside("ruled", r::ruled, 0, 1, -3);
        due("without a SMITHY", new RowRing().ruled(0), -3);
        due("without a SMITHY", new RowRing().ruled(1), -3);
    }

    // ---- 29 ----

    private static void look() {
        sentence(29, "LOOK behind the n-th DAY: the PAIR by whose BAND these part best: the most alike are fewest, of "
            + "several the least; how many.", KeptBoundaries::partBest);
        sentence(29, "LOOK (n 0 to 60) what 0: the PAIR, 1: how many", KeptBoundaries::lookDays);
        sentence(29, "-2: no RULE is so, or there are no PAIRS", KeptBoundaries::nothingToLookAt);
        sentence(29, "NONE without these, or a SMITHY", KeptBoundaries::noLook);
    }

    private static void lookOf(RowRing r, int n, int pair, int many) {
        due("look(" + n + ", 0)", r.look(n, 0), pair);
        due("look(" + n + ", 1)", r.look(n, 1), many);
    }

    private static void partBest() {
        // Behind DAY 0 PAIR 1 has 5, 0, 5 and 0 by none and the RULES, behind DAY 1 5, 0, 5 and 5; PAIR 0 has none.
        RowRing r = ring(TWO, "say 0", "say 1", "say 2 if day > 0");
        lookOf(r, 0, 1, 2);
        lookOf(r, 1, 1, 3);
        r.note(0, 1, 0);
        lookOf(r, 1, 1, 1);
        // Behind DAY 0 both that are left are alike, by either PAIR: the least.
        lookOf(r, 0, 0, 2);
        lookOf(six(), 0, 0, 2);
        lookOf(ring("smith 9 1;pair 0 5;pair 0 5;saying 5", "say 0"), 0, 0, 1);
        lookOf(ring(ONE), 0, 0, 1);
        // The last PAIR of five alone parts them.
        lookOf(ring("smith 9 1;pair 0 5;pair 0 5;pair 0 5;pair 0 5;pair 0 5;saying 5", "say 1 if pair < 4"), 0, 4, 1);
        // The most alike count, not how many kinds there are: PAIR 0 has 7, 5, 6, 0, 0, 0 and PAIR 1 7, 7, 5, 5, 0, 0.
        RowRing kinds = ring("smith 9 1;pair 0 5;pair 0 5;saying 5;saying 6;saying 7",
            "say 1 if pair = 0 and saying = 0 or pair = 1 and saying = 2",
            "say 1 if pair = 0 and saying = 1 or pair = 1 and saying = 0",
            "say 1 if pair = 1 and saying = 0", "say 0", "say 0");
        lookOf(kinds, 0, 1, 2);
    }

    private static void lookDays() {
        // By none 4 behind DAYS 59 and 60; the second RULE brings a BAND of 5 on DAY 60.
        RowRing r = ring(ONE, "say 0", "say 1 if day = 60");
        lookOf(r, 0, 0, 2);
        lookOf(r, 59, 0, 2);
        lookOf(r, 60, 0, 1);
        for (int what = 0; what < 2; what++) {
            int asked = what;
            beside("look(.., " + what + ")", n -> r.look(n, asked), 0, 60, NONE);
        }
    }

    private static void nothingToLookAt() {
        RowRing r = six();
        r.note(0, 0, 10);
        lookOf(r, 0, -2, -2);
        lookOf(r, 60, -2, -2);
        // None alone is so: that is one.
        RowRing one = ring(ONE, "say 0");
        one.note(0, 0, 5);
        lookOf(one, 0, 0, 1);
        lookOf(ring("smith 9 1", "say 1"), 0, -2, -2);
        lookOf(ring("smith 9 1;saying 1"), 60, -2, -2);
    }

    private static void noLook() {
        RowRing r = ring(TWO);
        beside("look(0, ..)", what -> r.look(0, what), 0, 1, NONE);
        due("without a SMITHY", new RowRing().look(0, 0), NONE);
        due("without a SMITHY", new RowRing().look(0, 1), NONE);
        // Also where there is nothing to look at.
        RowRing none = ring("smith 9 1");
        due("look(61, 0) without PAIRS", none.look(61, 0), NONE);
        due("look(0, 2) without PAIRS", none.look(0, 2), NONE);
    }

    // ---- 30 ----

    private static void seed() {
        sentence(30, "x (0 to 2147483647; 0 at first)", KeptBoundaries::seeds);
        sentence(30, "NONE, and nothing happens, below 0", KeptBoundaries::noSeed);
    }

    private static void seeds() {
        RowRing r = new RowRing();
        due("x at first", r.count(12), 0);
        due("seed(2147483647)", r.seed(HIGHEST), 0);
        due("x", r.count(12), HIGHEST);
        due("seed(0)", r.seed(0), HIGHEST);
        due("seed(1)", r.seed(1), 0);
        due("seed(1) again", r.seed(1), 1);
    }

    private static void noSeed() {
        RowRing r = ring(TWO);
        r.seed(7);
        refused(r, "seed(-1)", () -> r.seed(-1), NONE);
        refused(r, "seed(lowest)", () -> r.seed(LOWEST), NONE);
        due("x", r.count(12), 7);
    }

    // ---- 31 ----

    private static void doors() {
        sentence(31, "DRAWS: x (0 to 2147483647; 0 at first) becomes x * 1103515245 + 12345, of 2147483648 the rest; a "
            + "DRAW is x / 65536.", KeptBoundaries::draws);
        sentence(31, "DOORS m times (1 to 10) n DAYS (1 to 60) from now on", KeptBoundaries::timesAndDays);
        sentence(31, "ahead of each a DRAW mod 100: below p (0 to 100) it is left open: ROWS in these",
            KeptBoundaries::belowP);
        sentence(31, "how wide all BANDS are then, all together (nothing stays; x as it was)",
            KeptBoundaries::widthOfDoors);
        sentence(31, "NONE without these, or a SMITHY", KeptBoundaries::noDoors);
    }

    private static void draws() {
        // The first DRAWS from these on are 0, 15929, 22599 and 32767, the largest.
        int[] seeds = {0, HIGHEST, 194, 24884};
        int[] rest = {0, 29, 99, 67};
        for (int i = 0; i < seeds.length; i++) {
            RowRing r = ring(LATCH);
            r.seed(seeds[i]);
            due("below " + rest[i] + " from " + seeds[i], r.doors(1, 1, rest[i], 0), 0);
            due("below " + (rest[i] + 1) + " from " + seeds[i], r.doors(1, 1, rest[i] + 1, 0), 1);
        }
        // What is left of ten DRAWS from 0 on; each makes a ROW, or not.
        int[] ten = {0, 68, 88, 17, 98, 27, 45, 41, 22, 10};
        for (int p = 0; p <= 100; p += 9) {
            int rows = 0;
            for (int draw : ten) {
                rows += draw < p ? 1 : 0;
            }
            due("ROWS of ten DRAWS below " + p, ring(LATCH).doors(10, 1, p, 0), rows);
        }
    }

    private static void timesAndDays() {
        RowRing r = ring(ONE, "say 1 if day = 59");
        due("59 DAYS", r.doors(1, 59, 0, 0), 0);
        due("60 DAYS", r.doors(1, 60, 0, 0), 1);
        due("ten times 60 DAYS", r.doors(10, 60, 0, 0), 10);
        due("how wide ten times, made and worn on DAY 59", r.doors(10, 60, 0, 1), 40);
        due("once 1 DAY", ring(LATCH).doors(1, 1, 100, 0), 1);
        due("a ROW of DAY 60", ring(ONE, "say 1 if day = 60").doors(1, 60, 0, 0), 0);
        for (int what = 0; what < 2; what++) {
            int asked = what;
            beside("doors(.., 1, 0, " + what + ")", m -> r.doors(m, 1, 0, asked), 1, 10, NONE);
            beside("doors(1, .., 0, " + what + ")", n -> r.doors(1, n, 0, asked), 1, 60, NONE);
        }
        // Each time begins anew from now on, but for x.
        RowRing four = ring("smith 9 1;pair 0 4;saying 0");
        due("ROWS of two times", four.doors(2, 6, 30, 0), 2);
        due("how wide, 4 and 5", four.doors(2, 6, 30, 1), 9);
    }

    private static void belowP() {
        RowRing r = ring(LATCH);
        due("p 0: never", r.doors(10, 1, 0, 0), 0);
        due("p 100: always", r.doors(10, 1, 100, 0), 10);
        r.seed(194);
        due("a rest of 99, p 99", r.doors(1, 1, 99, 0), 0);
        due("a rest of 99, p 100", r.doors(1, 1, 100, 0), 1);
        beside("doors(1, 1, .., 0)", p -> r.doors(1, 1, p, 0), 0, 100, NONE);
        // Ahead of the DAY: the PAIR has a BAND when its turn comes; ROWS of the DAY itself count, too.
        RowRing ahead = ring("smith 9 1;pair 0 3;pair 0 4;saying 5", "say 1 if pair = 0 or bands = 1");
        due("ROWS by the DOOR and by the DAY", ahead.doors(1, 1, 100, 0), 2);
        due("how wide, 3 and 8", ahead.doors(1, 1, 100, 1), 11);
        // A DRAW is made also where each has a BAND: behind 0 and 68 the second time has 88 and 17.
        due("ROWS of two times two DAYS", ring(LATCH).doors(2, 2, 20, 0), 2);
    }

    private static void widthOfDoors() {
        RowRing r = ring(LATCH);
        r.seed(5);
        String before = all(r);
        // The BAND of DAY 0 is smooth on DAY 29, the one of DAY 30 is 1 wide behind DAY 49.
        due("how wide ten times", r.doors(10, 55, 100, 1), 10);
        same("nothing stays", all(r), before);
        due("x as it was", r.count(12), 5);
        due("ACTS", r.count(11), 0);
        due("no BANDS", r.doors(10, 60, 0, 1), 0);
        due("without PAIRS", ring("smith 9 1").doors(10, 60, 100, 1), 0);
        // BANDS that are there count each time, and ROWS so far do not.
        RowRing banded = ring(ONE);
        banded.say(0, 0);
        due("how wide three times", banded.doors(3, 9, 0, 1), 15);
        due("how wide three times behind DAY 9", banded.doors(3, 10, 0, 1), 12);
        due("ROWS in these", banded.doors(3, 9, 100, 0), 0);
        // DRAWS of 0 and 68: twice from now on, the DOOR open once.
        due("how wide all together", ring(LATCH).doors(2, 1, 50, 1), 3);
    }

    private static void noDoors() {
        RowRing r = ring(LATCH);
        beside("doors(1, 1, 0, ..)", what -> r.doors(1, 1, 0, what), 0, 1, NONE);
        due("without a SMITHY", new RowRing().doors(1, 1, 0, 0), NONE);
        due("without a SMITHY", new RowRing().doors(1, 1, 0, 1), NONE);
    }

    // ---- 32 ----

    private static void count() {
        sentence(32, "What 0: WIDEST, 1: WEAR, 2: PAIRS, 3: SAYINGS, 4: RULES, 5: the RULE IN FORCE (NONE), 6: DAY, "
            + "7: PAIRS that have a BAND, as bits, 8: ROWS so far, 9: how wide all BANDS are, 10: NOTES, 11: ACTS that "
            + "can be UNDONE, 12: x, 13: bytes of the TAPE.", KeptBoundaries::counts);
        sentence(32, "NONE for others", KeptBoundaries::noCount);
    }

    private static void counts() {
        RowRing none = new RowRing();
        for (int what = 0; what < 14; what++) {
            due("count(" + what + ") of a new object", none.count(what), what == 5 ? NONE : 0);
        }
        String five = "smith 99 9;pair 99 1;pair 99 1;pair 99 1;pair 99 1;pair 99 1";
        RowRing r = ring(five + ";saying 0".repeat(6), "say 0", "say 0", "say 0", "say 0", "say 0", "say 0");
        for (int p = 0; p < 5; p++) {
            r.say(p, 5);
        }
        days(r, 16);
        for (int i = 0; i < 11; i++) {
            r.note(i, 0, 0);
        }
        r.seed(HIGHEST);
        for (int i = 0; i < 21; i++) {
            r.feed(0, 0, 0, 0, 0);
        }
        int[] want = {99, 9, 5, 6, 6, 5, 16, 31, 5, 450, 10, 20, HIGHEST, 400};
        for (int what = 0; what < 14; what++) {
            due("count(" + what + ") at the most", r.count(what), want[what]);
        }
        r.force(NONE);
        due("no RULE IN FORCE", r.count(5), NONE);
    }

    private static void noCount() {
        beside("count of a new object", new RowRing()::count, 0, 13, NONE);
        beside("count", ring(TWO)::count, 0, 13, NONE);
    }

    // ---- 33 ----

    private static void image() {
        sentence(33, "An IMAGE is made: DAY; NONE without it.", KeptBoundaries::imagesMade);
        sentence(33, "IMAGES 0 to 3: all but the TAPE and the RULES, as it is (the RULE IN FORCE, too)",
            KeptBoundaries::whatImagesKeep);
    }

    private static void imagesMade() {
        RowRing r = ring(TWO);
        for (int k = 0; k < 4; k++) {
            due("image(" + k + ")", r.image(k), k);
            r.day();
        }
        for (int n : new int[] {-1, 4, LOWEST, HIGHEST}) {
            refused(r, "image(" + n + ")", () -> r.image(n), NONE);
        }
        due("ACTS", r.count(11), 4);
        for (int k = 3; k >= 0; k--) {
            due("back(" + k + ")", r.back(k), k);
        }
        // Made anew, it is of now.
        days(r, 2);
        due("image(0) again", r.image(0), 2);
        r.day();
        due("back(0)", r.back(0), 2);
        due("without a SMITHY", new RowRing().image(3), 0);
    }

    private static void whatImagesKeep() {
        RowRing r = ring(TWO, "say 0", "say 1");
        r.seed(HIGHEST);
        for (int i = 0; i < 10; i++) {
            r.note(0, 1, 5);
        }
        r.say(1, 0);
        r.day();
        String before = all(r);
        r.image(3);
        r.force(NONE);
        r.seed(0);
        r.note(NONE, 0, 0);
        for (int i = 0; i < 10; i++) {
            r.note(19, 0, 3);
        }
        days(r, 12);
        smith(r, "smith 1 1");
        tell(r, "say 0");
        rule(r, "say 0;say 1");
        tell(r, "say 1");
        r.back(3);
        due("the TAPE stays as it is", r.count(13), 5);
        due("RULES stay as they are", r.count(4), 3);
        due("the RULE IN FORCE", r.count(5), 1);
        due("x", r.count(12), HIGHEST);
        due("NOTES", r.count(10), 10);
        // By none and RULE 1 the BAND is 5 wide behind DAY 0, by the RULES 0 and 2 there is none.
        due("NOTES are as they were", r.ruled(0), 2);
        due("the TAPE is the one of now", r.rule(), 3);
        same("the rest", most(all(r)), most(before));
    }

    /** All but what counts rules, acts and bytes, and what is ruled by the new rules. */
    private static String most(String all) {
        String[] words = all.split(" ");
        words[4] = "";
        words[11] = "";
        words[13] = "";
        words[words.length - 2] = "";
        return String.join(" ", words);
    }

    // ---- 34 ----

    private static void back() {
        sentence(34, "All is as in an IMAGE: DAY", KeptBoundaries::asInImage);
        sentence(34, "NONE, and nothing happens, if it was never made, or without it", KeptBoundaries::noBack);
        sentence(34, "gone back to, it is as it was (these stay; nothing can be UNDONE then)",
            KeptBoundaries::nothingUndone);
    }

    private static void asInImage() {
        RowRing none = new RowRing();
        due("image of nothing", none.image(0), 0);
        smith(none, TWO);
        none.day();
        due("back to nothing", none.back(0), 0);
        due("no SMITHY", none.day(), NONE);
        due("PAIRS", none.count(2), 0);
        due("WIDEST", none.count(0), 0);
        due("ROWS", none.count(8), 0);
        RowRing r = ring(TWO);
        r.image(1);
        String begin = all(r);
        days(r, 30);
        due("back to the begin", r.back(1), 0);
        same("all as it was", all(r), begin);
    }

    private static void noBack() {
        RowRing none = new RowRing();
        for (int k = 0; k < 4; k++) {
            due("back(" + k + ") of a new object", none.back(k), NONE);
        }
        RowRing r = ring(TWO);
        r.day();
        r.image(1);
        r.day();
        for (int k : new int[] {0, 2, 3, -1, 4, LOWEST, HIGHEST}) {
            refused(r, "back(" + k + ")", () -> r.back(k), NONE);
        }
        due("ACTS", r.count(11), 2);
        due("back(1)", r.back(1), 1);
    }

    private static void nothingUndone() {
        RowRing r = ring(TWO);
        days(r, 21);
        r.image(2);
        due("ACTS behind an IMAGE", r.count(11), 20);
        due("back(2)", r.back(2), 21);
        due("ACTS", r.count(11), 0);
        due("undo", r.undo(), NONE);
        r.day();
        due("undo of what was done since", r.undo(), 0);
        due("DAY", r.count(6), 21);
        // The IMAGE stays, however often it is gone back to.
        r.day();
        due("back(2) again", r.back(2), 21);
        smith(r, "smith 1 1");
        due("back(2) from another SMITHY", r.back(2), 21);
        due("PAIRS", r.count(2), 2);
    }
}
