/** Promises 1 to 6: what the document says of the boundary cases of the tape, of smithies and of rules. */
final class TextBoundaries extends Boundaries {
    private static final String TWO = "smith 9 8;pair 7 90;pair 0 9;saying 5;saying 2;minds 1 0 3;near 0 1";
    private static final String FIVE_PAIRS = "smith 1 1" + ";pair 0 1".repeat(5);
    private static final String SIX_SAYINGS = "smith 1 1" + ";saying 0".repeat(6);
    private static final String FORTY = "smith 1 1;pair 0 1;pair 0 1" + ";near0 1".repeat(37);
    private static final String SIXTY = "say 1" + "+1".repeat(59);

    private TextBoundaries() {
    }

    static void test() {
        newObject();
        tape();
        smithyPromised();
        smithyTold();
        smithyFaults();
        rulePromised();
        ruleTold();
        ruleFaults();
        force();
    }

    // ---- 1 ----

    private static void newObject() {
        sentence(1, "No SMITHY, no RULES, none IN FORCE.", TextBoundaries::nothingIsThere);
        sentence(1, "An object is used for at most 512 calls after it has been made", TextBoundaries::call512);
    }

    private static void nothingIsThere() {
        RowRing r = new RowRing();
        due("PAIRS", r.count(2), 0);
        due("a day without a SMITHY", r.day(), NONE);
        due("benches without a SMITHY", r.benches(NONE), -3);
        due("RULES", r.count(4), 0);
        due("force of RULE 0", r.force(0), -2);
        due("the RULE IN FORCE", r.count(5), NONE);
        due("force of none", r.force(NONE), NONE);
    }

    private static void call512() {
        RowRing r = new RowRing();
        // "smith 9 8;pair 7 6  "
        due("call 1", r.feed(0x736d6974, 0x68203920, 0x383b7061, 0x69722037, 0x20362020), 20);
        due("call 2", r.smith(), 1);
        days(r, 509);
        due("call 512", r.count(6), 509);
    }

    // ---- 2 and 3 ----

    private static void tape() {
        sentence(2, "Twenty bytes come behind the TAPE, of each number the highest first: how many it has",
            TextBoundaries::bytesInOrder);
        sentence(2, "NONE, and none comes, if it would have more than 400", TextBoundaries::tapeFull);
        sentence(3, "The TAPE has its first n bytes alone: n", TextBoundaries::firstBytes);
        sentence(3, "NONE, and nothing happens, if it has not so many, or n is below 0", TextBoundaries::noSuchEnd);
    }

    private static void bytesInOrder() {
        RowRing r = new RowRing();
        due("feed", r.feed(0x736d6974, 0x68203920, 0x383b7061, 0x69722037, 0x20362020), 20);
        due("smith", r.smith(), 1);
        due("WIDEST", r.count(0), 9);
        due("BREAKS", r.pair(0, 1), 6);
        // "say 1", then a byte of 255: what is below 0 as a number has bytes, too.
        due("feed of numbers below 0", r.feed(0x73617920, 0x31ffffff, -1, LOWEST, HIGHEST), 20);
        due("rule of these", r.rule(), fault(5, 0));
        due("feed of zeros", r.feed(0, 0, 0, 0, 0), 20);
        due("feed once more", r.feed(0, 0, 0, 0, 0), 40);
    }

    private static void tapeFull() {
        RowRing r = new RowRing();
        for (int i = 1; i <= 20; i++) {
            due("feed " + i, r.feed(0x20202020, 0x20202020, 0x20202020, 0x20202020, 0x20202020), 20 * i);
        }
        refused(r, "feed 21", () -> r.feed(1, 2, 3, 4, 5), NONE);
        r.end(381);
        refused(r, "feed behind 381", () -> r.feed(1, 2, 3, 4, 5), NONE);
        due("none came: the end comes behind 381 blanks", r.rule(), fault(381, 0));
        tell(r, "say 1" + " ".repeat(375));
        due("feed behind 380", r.feed(0x20202020, 0x20202020, 0x20202020, 0x20202020, 0x20202020), 400);
        due("all came", r.rule(), 0);
    }

    private static void firstBytes() {
        RowRing r = new RowRing();
        due("end(0) of none", r.end(0), 0);
        tell(r, "say 123456");
        due("end of all", r.end(10), 10);
        due("end of one less", r.end(9), 9);
        due("bytes", r.count(13), 9);
        due("rule of the first 9", r.rule(), 0);
        tell(r, "say 1");
        due("end(0)", r.end(0), 0);
        due("rule of none", r.rule(), fault(0, 0));
        // What stood behind is not read any more, be it that it would go on there.
        tell(r, "say 1 if 1 <=2");
        r.end(12);
        due("rule of what ends ahead of =", r.rule(), fault(12, 0));
        tell(r, "say daybreak");
        r.end(7);
        due("rule of what ends within a word", r.rule(), 1);
    }

    private static void noSuchEnd() {
        RowRing r = new RowRing();
        refused(r, "end(1) of none", () -> r.end(1), NONE);
        tell(r, "say 1");
        for (int n : new int[] {6, 20, 400, 401, HIGHEST, -1, LOWEST}) {
            refused(r, "end(" + n + ") of 5", () -> r.end(n), NONE);
        }
        due("rule of what stayed", r.rule(), 0);
    }

    // ---- 4 ----

    private static void smithyPromised() {
        sentence(4, "The TAPE, which is empty then, is the SMITHY in place of the one there was",
            TextBoundaries::inItsPlace);
        sentence(4, "(no NOTES, nothing to be UNDONE; the RULE IN FORCE and x stay): how many PAIRS",
            TextBoundaries::whatStays);
        sentence(4, "-2 - its FAULT, and all stays", TextBoundaries::faultySmithy);
        sentence(4, "A SMITHY is a text of at most 400 bytes", TextBoundaries::longestSmithy);
    }

    private static void inItsPlace() {
        RowRing r = ring(TWO + ";minds 0 0 1;minds 1 1 1");
        r.say(0, 0);
        r.say(1, 0);
        r.say(1, 0);
        r.day();
        due("the same, but for minds and near", smith(r, "smith 9 8;pair 7 90;pair 0 9;saying 5;saying 2"), 2);
        due("bytes", r.count(13), 0);
        for (int p = 0; p < 2; p++) {
            for (int s = 0; s < 2; s++) {
                due("nobody minds", r.saying(p, s, 0), s == 0 ? 5 : 2);
                due("nothing was said", r.saying(p, s, 1), 0);
            }
            due("nobody is near", r.pair(p, 4), 0);
        }
        due("DAY", r.count(6), 0);
        due("ROWS", r.count(8), 0);
        due("BANDS", r.count(7), 0);
        due("SIZE", r.pair(1, 3), 0);
        due("TEMPER", r.pair(0, 0), 7);
        due("a smithy of none", smith(r, "smith 1 1"), 0);
        due("no PAIR 0", r.pair(0, 0), NONE);
        due("SAYINGS", r.count(3), 0);
        due("BANDS of none", r.count(9), 0);
    }

    private static void whatStays() {
        RowRing r = ring(TWO, "say 0", "say 1");
        r.seed(HIGHEST);
        for (int i = 0; i < 10; i++) {
            r.note(i, 0, 0);
        }
        days(r, 21);
        due("NOTES ahead of it", r.count(10), 10);
        due("smith", smith(r, FIVE_PAIRS), 5);
        due("NOTES", r.count(10), 0);
        due("ACTS", r.count(11), 0);
        due("undo", r.undo(), NONE);
        due("the RULE IN FORCE", r.count(5), 1);
        due("x", r.count(12), HIGHEST);
        due("RULES", r.count(4), 2);
        due("smith without PAIRS", smith(r, "smith 1 1"), 0);
    }

    private static void faultySmithy() {
        RowRing r = ring(TWO, "say 1");
        r.seed(77);
        r.note(1, 0, 0);
        r.say(1, 0);
        r.say(1, 0);
        String before = all(r);
        due("the least FAULT", r.smith(), -3);
        due("a FAULT behind much that is fine", smith(r, "smith 5 5;pair 1 1;saying 9;minds 0 0 20;pair 0 0"),
            fault(48, 1));
        due("bytes", r.count(13), 0);
        same("all stays", all(r), before);
        due("the largest place", smith(r, "smith 1 1;" + " ".repeat(390)), fault(400, 0));
        due("undo", r.undo(), 1);
        due("undo", r.undo(), 0);
    }

    private static void longestSmithy() {
        smithFine("smith 1 1" + " ".repeat(391), 0);
        smithFine("smith 1 1;" + " ".repeat(382) + "pair 0 1", 1);
        smithFault("smith 1 1" + " ".repeat(390) + "x", 399, 0);
        smithFine(" ".repeat(391) + "smith 1 1", 0);
    }

    private static void smithyTold() {
        sentence(4, "CLAUSE { ; CLAUSE }, 40 at most", TextBoundaries::fortyClauses);
        sentence(4, "smith NUMBER NUMBER (WIDEST 1 to 99", TextBoundaries::widest);
        sentence(4, "WEAR 1 to 9 of a band on each tenth day", TextBoundaries::wear);
        sentence(4, "once, the first CLAUSE", TextBoundaries::smithOnce);
        sentence(4, "pair NUMBER NUMBER (TEMPER 0 to 99", TextBoundaries::temper);
        sentence(4, "BREAKS 1 to 99", TextBoundaries::breaks);
        sentence(4, "saying NUMBER (HURT 0 to 9)", TextBoundaries::hurt);
        sentence(4, "a PAIR, a SAYING that were told", TextBoundaries::mindsWhatWasTold);
        sentence(4, "how much more it hurts them, 0 to 20", TextBoundaries::mindsSoMuch);
        sentence(4, "of the same two the last told, 0 without", TextBoundaries::mindsLastTold);
        sentence(4, "two PAIRS that were told", TextBoundaries::nearWhatWasTold);
        sentence(4, "told already: nothing new", TextBoundaries::nearToldAlready);
        sentence(4, "PAIRS 0 to 4, SAYINGS 0 to 5, in the order told.", TextBoundaries::fullSmithy);
        sentence(4, "It is DAY 0; nobody has a BAND.", TextBoundaries::begin);
    }

    private static void fortyClauses() {
        smithFine("smith 1 1", 0);
        smithFine(FORTY, 2);
        smithFault(FORTY + ";near0 1", 324, 4);
        smithFault(FORTY + ";saying 0", 324, 4);
    }

    private static void widest() {
        due("WIDEST", ring("smith 1 1").count(0), 1);
        due("WIDEST", ring("smith 99 1").count(0), 99);
        smithFault("smith 0 1", 6, 1);
        smithFault("smith 100 1", 6, 1);
    }

    private static void wear() {
        due("WEAR", ring("smith 1 1").count(1), 1);
        due("WEAR", ring("smith 1 9").count(1), 9);
        smithFault("smith 1 0", 8, 1);
        smithFault("smith 1 10", 8, 1);
        RowRing r = ring("smith 99 9;pair 99 1;saying 0", "say 0");
        r.say(0, 0);
        days(r, 9);
        due("how wide ahead of the tenth day", r.pair(0, 2), 99);
        r.day();
        due("how wide behind it", r.pair(0, 2), 90);
        days(r, 9);
        due("how wide ahead of the twentieth day", r.pair(0, 2), 90);
        r.day();
        due("how wide behind it", r.pair(0, 2), 81);
    }

    private static void smithOnce() {
        smithFault("smith 1 1;smith 1 1", 10, 4);
        smithFault("smith 1 1;pair 0 1;smith 2 2", 19, 4);
        smithFault("pair 0 1;smith 1 1", 0, 4);
        smithFault("saying 0", 0, 4);
        smithFault("minds 0 0 0", 0, 4);
        smithFault("near 0 1", 0, 4);
    }

    private static void temper() {
        RowRing r = ring("smith 1 1;pair 0 1;pair 99 1");
        due("TEMPER", r.pair(0, 0), 0);
        due("TEMPER", r.pair(1, 0), 99);
        smithFault("smith 1 1;pair 100 1", 15, 1);
    }

    private static void breaks() {
        RowRing r = ring("smith 1 1;pair 0 1;pair 0 99");
        due("BREAKS", r.pair(0, 1), 1);
        due("BREAKS", r.pair(1, 1), 99);
        smithFault("smith 1 1;pair 0 0", 17, 1);
        smithFault("smith 1 1;pair 0 100", 17, 1);
    }

    private static void hurt() {
        RowRing r = ring("smith 1 1;pair 0 1;saying 0;saying 9");
        due("HURT", r.saying(0, 0, 0), 0);
        due("HURT", r.saying(0, 1, 0), 9);
        smithFault("smith 1 1;saying 10", 17, 1);
    }

    private static void mindsWhatWasTold() {
        smithFine("smith 1 1;pair 0 1;saying 0;minds 0 0 1", 1);
        smithFault("smith 1 1;saying 0;minds 0 0 1", 25, 1);
        smithFault("smith 1 1;pair 0 1;minds 0 0 1", 27, 1);
        smithFault("smith 1 1;pair 0 1;saying 0;minds 1 0 1", 34, 1);
        smithFault("smith 1 1;pair 0 1;saying 0;minds 0 1 1", 36, 1);
        // Told only later, they were not told.
        smithFault("smith 1 1;pair 0 1;saying 0;minds 1 0 1;pair 0 1", 34, 1);
        smithFault("smith 1 1;pair 0 1;minds 0 0 1;saying 0", 27, 1);
    }

    private static void mindsSoMuch() {
        String smithy = "smith 1 1;pair 0 1;saying 2;minds 0 0 ";
        due("it hurts", ring(smithy + "0").saying(0, 0, 0), 2);
        due("it hurts", ring(smithy + "20").saying(0, 0, 0), 22);
        smithFault(smithy + "21", 38, 1);
    }

    private static void mindsLastTold() {
        String smithy = "smith 1 1;pair 0 1;pair 0 1;saying 2;saying 2;minds 0 1 20;minds 0 1 3";
        due("the last told", ring(smithy).saying(0, 1, 0), 5);
        due("the last told", ring(smithy + ";minds 0 1 0").saying(0, 1, 0), 2);
        due("another SAYING", ring(smithy).saying(0, 0, 0), 2);
        due("another PAIR", ring(smithy).saying(1, 1, 0), 2);
    }

    private static void nearWhatWasTold() {
        smithFine("smith 1 1;pair 0 1;pair 0 1;near 0 1", 2);
        smithFault("smith 1 1;near 0 1", 15, 1);
        smithFault("smith 1 1;pair 0 1;pair 0 1;near 2 0", 33, 1);
        smithFault("smith 1 1;pair 0 1;pair 0 1;near 0 2", 35, 1);
        smithFault("smith 1 1;pair 0 1;near 0 1;pair 0 1", 26, 1);
    }

    private static void nearToldAlready() {
        RowRing r = ring("smith 9 1;pair 0 99;pair 0 99;pair 0 99;saying 9;near 0 1;near 0 1;near 1 0");
        due("PAIRS near 0", r.pair(0, 4), 2);
        due("PAIRS near 1", r.pair(1, 4), 1);
        due("PAIRS near 2", r.pair(2, 4), 0);
        r.say(0, 0);
        due("it is heard once", r.pair(1, 0), 4);
    }

    private static void fullSmithy() {
        smithFine(FIVE_PAIRS, 5);
        smithFault(FIVE_PAIRS + ";pair 0 1", 55, 4);
        due("SAYINGS", ring(SIX_SAYINGS).count(3), 6);
        smithFault(SIX_SAYINGS + ";saying 0", 64, 4);
        RowRing r = ring("smith 1 1;pair 1 1;saying 9;pair 2 1;saying 8;pair 3 1;saying 7;pair 4 1;saying 6;pair 5 1;"
            + "saying 5;saying 4");
        for (int p = 0; p < 5; p++) {
            due("TEMPER of PAIR " + p, r.pair(p, 0), p + 1);
        }
        for (int s = 0; s < 6; s++) {
            due("HURT of SAYING " + s, r.saying(4, s, 0), 9 - s);
        }
        smithFine(FIVE_PAIRS + ";saying 0".repeat(6) + ";minds 4 5 20;near 4 3", 5);
        smithFault(FIVE_PAIRS + ";near 5 0", 60, 1);
        smithFault(FIVE_PAIRS + ";saying 0".repeat(6) + ";minds 4 6 0", 117, 1);
    }

    private static void begin() {
        RowRing r = ring("smith 9 1;pair 99 1;pair 1 1;saying 9");
        due("DAY", r.count(6), 0);
        due("PAIRS that have a BAND, also if TEMPER is above BREAKS", r.count(7), 0);
        due("how wide", r.pair(0, 2), 0);
        due("SIZE", r.pair(0, 3), 0);
        due("ROWS", r.count(8), 0);
    }

    private static void smithyFaults() {
        sentence(4, "FAULTS, the first along the text, 1 + 8 * its place", TextBoundaries::smithFirstFault);
        sentence(4, "0 a byte or WORD that can't stand there, or the end (behind the last byte)",
            TextBoundaries::smithCannotStand);
        sentence(4, "1 a NUMBER of more digits, or not as told (of near the second PAIR, if it is the first)",
            TextBoundaries::smithNumbers);
        sentence(4, "4 one CLAUSE too many, a second smith, another CLAUSE ahead of it, a sixth PAIR, a seventh "
            + "SAYING (at its first byte)", TextBoundaries::smithClauses);
        sentence(4, "Of one place the least.", TextBoundaries::smithLeast);
        sentence(4, "NUMBER (1 to 5 digits, as far as digits go on)", TextBoundaries::smithDigits);
        sentence(4, "Blanks (32) stand between as one likes.", TextBoundaries::smithBlanks);
    }

    private static void smithFirstFault() {
        smithFault("smith 0 0", 6, 1);
        smithFault("smith 100 10;smith", 6, 1);
        smithFault("smith 1 1;pair 0 0;pair 0 1,", 17, 1);
        smithFault("smith 1 1;near 5 5", 15, 1);
        smithFault("smith 1 1;pair 0 1;saying 0;minds 1 1 99", 34, 1);
        smithFault("smith 1 1;pair 0 1;saying 0;minds 0 1 99", 36, 1);
        smithFault("x", 0, 0);
    }

    private static void smithCannotStand() {
        smithFault("", 0, 0);
        smithFault("    ", 4, 0);
        smithFault("smith", 5, 0);
        smithFault("smith 1", 7, 0);
        smithFault("smith 1 ", 8, 0);
        smithFault("smith 1 1;", 10, 0);
        smithFault("smith 1 1;  ", 12, 0);
        smithFault("smith 1 1;;", 10, 0);
        smithFault("smith 1 1;pair 0 1;saying 0;minds 0 0", 37, 0);
        smithFault("smith 1 1;pair 0 1;near 0", 25, 0);
        smithFault("smith 1 1 1", 10, 0);
        smithFault("smith 1 1\0", 9, 0);
        smithFault("smith 1 1\u00ff", 9, 0);
        smithFault("smith -1 1", 6, 0);
        smithFault("say 1", 0, 0);
        smithFault("smith 1 1;pairs 0 1", 10, 0);
        smithFault("smith 1 1;pai 0 1", 10, 0);
        smithFault("smith 1 1;Pair 0 1", 10, 0);
        smithFault("smith 1 1;fair 0 1", 10, 0);
        smithFault("smith one 1", 6, 0);
    }

    private static void smithNumbers() {
        smithFault("smith 000001 1", 6, 1);
        smithFault("smith 1 000001", 8, 1);
        smithFault("smith 99999999999999999999 1", 6, 1);
        smithFault("smith 4294967297 1", 6, 1);
        smithFault("smith 1 1;pair 0 1;near 0 0", 26, 1);
        smithFault("smith 1 1;pair 0 1;pair 0 1;near 1 1", 35, 1);
        smithFault("smith 1 1;pair 0 1;pair 0 1;near 1 00001", 35, 1);
        // The first of the two is looked at first.
        smithFault("smith 1 1;pair 0 1;near 1 1", 24, 1);
    }

    private static void smithClauses() {
        smithFault(FORTY + "; near 0 1", 325, 4);
        smithFault("smith 1 1;  smith 1 1", 12, 4);
        smithFault("  pair 0 1", 2, 4);
        smithFault(FIVE_PAIRS + " ; pair 0 1", 57, 4);
        smithFault(SIX_SAYINGS + ";saying", 64, 4);
        smithFault(FIVE_PAIRS + ";pair", 55, 4);
    }

    private static void smithLeast() {
        // What can't stand at a place is no CLAUSE too many there.
        smithFault(FORTY + ";pairs", 324, 0);
        smithFault(FORTY + ";", 324, 0);
        smithFault(FORTY + ";1", 324, 0);
        smithFault("pairs 0 1", 0, 0);
        smithFault(FIVE_PAIRS + ";pairs", 55, 0);
        smithFault(SIX_SAYINGS + ";sayings", 64, 0);
    }

    private static void smithDigits() {
        smithFine("smith 00099 00009", 0);
        smithFault("smith 000099 9", 6, 1);
        smithFine("smith 1 1;pair 00000 00001", 1);
        smithFault("smith 1 1;pair 000000 1", 15, 1);
        // "11" is one NUMBER, so the second is missing.
        smithFault("smith 11", 8, 0);
    }

    private static void smithBlanks() {
        smithFine("smith1 1;pair0 1;pair2 3;saying4;minds0 0 5;near0 1", 2);
        smithFine("   smith   1   1   ;   pair   0   1   ", 1);
        smithFault("smi th 1 1", 0, 0);
        smithFault("smith\t1 1", 5, 0);
        smithFault("smith 1\n1", 7, 0);
        smithFault("smith 1 1\r", 9, 0);
        smithFault("smith 1 \u00a01", 8, 0);
    }

    // ---- 5 ----

    private static void rulePromised() {
        sentence(5, "The TAPE, which is empty then, is a RULE: its number", TextBoundaries::ruleNumbers);
        sentence(5, "-2 - its FAULT", TextBoundaries::faultyRule);
        sentence(5, "NONE, and nothing happens: there are 6", TextBoundaries::seventhRule);
    }

    private static void ruleNumbers() {
        RowRing r = new RowRing();
        for (int i = 0; i < 6; i++) {
            due("rule " + i, rule(r, "say " + i), i);
            due("bytes", r.count(13), 0);
            due("RULES", r.count(4), i + 1);
        }
        due("none is IN FORCE by that", r.count(5), NONE);
    }

    private static void faultyRule() {
        RowRing r = ring(TWO, "say 1");
        r.day();
        due("the least FAULT", r.rule(), -3);
        String before = all(r);
        due("rule", rule(r, "say 0;say"), fault(9, 0));
        same("behind it, and the TAPE is empty", all(r), before);
        due("the largest place", rule(r, "say 1;" + " ".repeat(394)), fault(400, 0));
        due("the next is RULE 1 all the same", rule(r, "say 1"), 1);
        // What was read of those with a FAULT is no part of it, and they leave nothing behind.
        r.force(1);
        due("RULE 1 says", r.say(0, 0) + r.day(), 0);
        due("said", r.saying(0, 0, 1), 3);
        due("deep, and not closed", rule(r, "say 1 if not not [[[1 + 2"), fault(25, 0));
        due("ten deep behind it", rule(r, "say 1 if " + "[".repeat(10) + "1<2" + "]".repeat(10)), 2);
        due("too deep behind it", rule(r, "say 1 if " + "[".repeat(11)), fault(19, 2));
        due("said by a RULE behind it", says(r, "say 1 if not [1 = 2]") ? 1 : 0, 1);
    }

    private static void seventhRule() {
        RowRing r = new RowRing();
        for (int i = 0; i < 6; i++) {
            rule(r, "say 0");
        }
        refused(r, "rule of an empty TAPE", r::rule, NONE);
        tell(r, "say 1");
        refused(r, "rule", r::rule, NONE);
        due("the TAPE stays", r.count(13), 5);
        tell(r, "say");
        refused(r, "rule of a text with a FAULT", r::rule, NONE);
        due("RULES", r.count(4), 6);
        due("force of RULE 6", r.force(6), -2);
        tell(r, "smith 9 1");
        refused(r, "rule", r::rule, NONE);
        due("the TAPE is as it was", r.smith(), 0);
        due("WIDEST", r.count(0), 9);
    }

    private static void ruleTold() {
        sentence(5, "RULES 0 to 5: texts likewise, 12 CLAUSES at most", TextBoundaries::twelveClauses);
        sentence(5, "say SUM [ if TEST ]", TextBoundaries::ifOrNot);
        sentence(5, "FACT: not FACT | [ TEST ] (these brackets are signs) | SUM SIGN SUM, SIGN one of < <= = >= >",
            TextBoundaries::facts);
        sentence(5, "VALUE: NUMBER (1 to 5 digits, as far as digits go on) | WORD", TextBoundaries::ruleDigits);
        sentence(5, "WORDS (small letters, as far as these go on)", TextBoundaries::ruleWords);
        sentence(5, "Blanks (32) stand between as one likes.", TextBoundaries::ruleBlanks);
        sentence(5, "[ and not lie within one another 10 deep at most", TextBoundaries::tenDeep);
        sentence(5, "at most 60 VALUES (of SUMS) and FACTS made of a SIGN, together", TextBoundaries::sixtyParts);
    }

    private static void twelveClauses() {
        String twelve = "say 1" + ";say 1".repeat(11);
        ruleFine("say 1");
        ruleFine(twelve);
        ruleFault(twelve + ";say 1", 72, 4);
        ruleFine("say 1" + " ".repeat(395));
        ruleFault("say 1" + " ".repeat(394) + "x", 399, 0);
        ruleFault("say 1 if 1" + " ".repeat(389) + "<", 400, 0);
        ruleFault("say 1 if 1" + " ".repeat(388) + "<=", 400, 0);
        ruleFault("say 1 if" + " ".repeat(389) + "not", 400, 0);
        ruleFine("say" + " ".repeat(394) + "day");
        RowRing r = ring("smith 9 1;pair 0 99;saying 5");
        due("the twelfth CLAUSE is said by", says(r, "say 0 if 1 > 2;".repeat(11) + "say 1") ? 1 : 0, 1);
    }

    private static void ifOrNot() {
        ruleFine("say 1 if 1 = 1");
        ruleFault("say", 3, 0);
        ruleFault("say if 1 = 1", 4, 0);
        ruleFault("say 1 if", 8, 0);
        ruleFault("say 1 if 1 = 1 if 1 = 1", 15, 0);
        ruleFault("say 1 [ if 1 = 1 ]", 6, 0);
    }

    private static void facts() {
        ruleFine("say 1 if not 1 = 1");
        ruleFine("say 1 if [1 = 1]");
        ruleFault("say 1 if []", 10, 0);
        ruleFault("say 1 if [1 = 1", 15, 0);
        ruleFault("say 1 if 1 = 1]", 14, 0);
        ruleFault("say 1 if not", 12, 0);
        ruleFault("say 1 if 1", 10, 0);
        ruleFault("say 1 if 1 == 1", 12, 0);
        ruleFault("say 1 if 1 < = 1", 13, 0);
        ruleFault("say 1 if 1 > = 1", 13, 0);
        ruleFault("say 1 if 1 => 1", 12, 0);
        ruleFault("say 1 if 1 <> 1", 12, 0);
        ruleFault("say 1 if [1] = 1", 11, 0);
        ruleFault("say [1]", 4, 0);
        ruleFault("say 1 if [1 < 2] + 1 > 0", 17, 0);
        ruleFault("say 1 if [1 < 2] < 3", 17, 0);
        // Ahead of, at and behind where both are alike.
        String[] signs = {"<", "<=", "=", ">=", ">"};
        boolean[][] want = {{true, false, false}, {true, true, false}, {false, true, false}, {false, true, true},
            {false, false, true}};
        for (int i = 0; i < signs.length; i++) {
            for (int n = 1; n <= 3; n++) {
                holds(n + signs[i] + "2", want[i][n - 1]);
                holds("not " + n + signs[i] + "2", !want[i][n - 1]);
            }
        }
    }

    private static void ruleDigits() {
        ruleFine("say 0");
        ruleFine("say 99999");
        ruleFine("say 00000");
        ruleFault("say 100000", 4, 1);
        ruleFault("say 000000", 4, 1);
        ruleFault("say 1 1", 6, 0);
        holds("99999 = 99998 + 1", true);
        holds("00010 = 10", true);
    }

    private static void ruleWords() {
        ruleFine("say pair + saying + temper + breaks + hurt + minds + said + near + bands + rows + day");
        ruleFault("say days", 4, 0);
        ruleFault("say da", 4, 0);
        ruleFault("say dayz", 4, 0);
        ruleFault("say daya", 4, 0);
        ruleFault("say may", 4, 0);
        ruleFault("say Day", 4, 0);
        ruleFault("say saysaying", 4, 0);
        ruleFault("says 1", 0, 0);
        ruleFault("say 1 if pair=1 andday=1", 16, 0);
        ruleFault("say 1 iffy", 6, 0);
        ruleFine("say day/day%day");
        ruleFine("say 1if day=1or day=2and not day=3");
    }

    private static void ruleBlanks() {
        ruleFine("say1if1<2or[hurt>=3and not pair=4]");
        ruleFine("   say   1   if   not   [   1   <   2   ]   ;   say   3   %   4   ");
        ruleFault("sa y 1", 0, 0);
        ruleFault("say\t1", 3, 0);
        ruleFault("say 1\0", 5, 0);
    }

    private static void tenDeep() {
        ruleFine("say 1 if " + "[".repeat(10) + "1<2" + "]".repeat(10));
        ruleFault("say 1 if " + "[".repeat(11) + "1<2" + "]".repeat(11), 19, 2);
        ruleFine("say 1 if " + "not ".repeat(10) + "1<2");
        ruleFault("say 1 if " + "not ".repeat(11) + "1<2", 49, 2);
        ruleFine("say 1 if " + "not [".repeat(5) + "1<2" + "]".repeat(5));
        ruleFault("say 1 if " + "not [".repeat(5) + "not 1<2" + "]".repeat(5), 34, 2);
        ruleFault("say 1 if " + "[not ".repeat(5) + "[1<2]" + "]".repeat(5), 34, 2);
        // Beside one another they do not lie within one another, and each CLAUSE begins anew.
        ruleFine("say 1 if not 1<2" + " and not [1<2]".repeat(14));
        ruleFine("say 1 if [1<2]" + " or [1<2]".repeat(14));
        ruleFine("say 1 if " + "[".repeat(9) + "not 1<2 or [1<2] and not 1<2" + "]".repeat(9));
        ruleFine("say 1 if " + "not ".repeat(10) + "1<2;say 1 if " + "not ".repeat(10) + "1<2");
        holds("not ".repeat(10) + "1 < 2", true);
        holds("not ".repeat(9) + "1 < 2", false);
        // What stood ahead makes nothing less deep.
        ruleFault("say 1 if 1+1*1<2 and [1-1<2] or " + "[".repeat(11), 42, 2);
        ruleFault("say 1 if not [not 1<2] and " + "[".repeat(11), 37, 2);
    }

    private static void sixtyParts() {
        ruleFine(SIXTY);
        ruleFault(SIXTY + "+1", 124, 3);
        // 57 and the three of a FACT.
        ruleFine("say 1" + "+1".repeat(56) + " if 1<2");
        ruleFault("say 1" + "+1".repeat(57) + " if 1<2", 125, 3);
        // Over all CLAUSES of a RULE.
        ruleFine("say 1+1+1+1+1" + ";say 1+1+1+1+1".repeat(11));
        ruleFault("say 1+1+1+1+1" + ";say 1+1+1+1+1".repeat(11) + "+1", 168, 3);
        // Neither not nor and, or, brackets count.
        ruleFine("say 1+1+1 if not [1<2" + "] and not [1<2".repeat(18) + "]");
        ruleFault("say 1+1+1+1 if not [1<2" + "] and not [1<2".repeat(18) + "]", 274, 3);
        // A RULE behind another begins anew.
        RowRing r = new RowRing();
        rule(r, SIXTY);
        due("another of 60", rule(r, SIXTY), 1);
    }

    private static void ruleFaults() {
        sentence(5, "FAULTS, the first along the text, 1 + 8 * its place", TextBoundaries::ruleFirstFault);
        sentence(5, "0 a byte or WORD that can't stand there, or the end (behind the last byte)",
            TextBoundaries::ruleCannotStand);
        sentence(5, "1 a NUMBER of more digits, or not as told", TextBoundaries::ruleMoreDigits);
        sentence(5, "2 too deep (at the sign that opens, or the word not)", TextBoundaries::ruleTooDeep);
        sentence(5, "3 one VALUE or FACT too many (at its first byte; of a FACT at its SIGN)",
            TextBoundaries::ruleTooMany);
        sentence(5, "4 one CLAUSE too many", TextBoundaries::ruleClauses);
        sentence(5, "Of one place the least.", TextBoundaries::ruleLeast);
    }

    private static void ruleFirstFault() {
        ruleFault("say 123456 + x", 4, 1);
        ruleFault("say x + 123456", 4, 0);
        ruleFault(SIXTY + "+1+x", 124, 3);
        ruleFault("say 1 if " + "[".repeat(11) + "x", 19, 2);
        ruleFault("say 1 if " + "[".repeat(10) + "x", 19, 0);
        ruleFault(",", 0, 0);
    }

    private static void ruleCannotStand() {
        ruleFault("", 0, 0);
        ruleFault("   ", 3, 0);
        ruleFault("say", 3, 0);
        ruleFault("say ", 4, 0);
        ruleFault("say 1 +", 7, 0);
        ruleFault("say 1;", 6, 0);
        ruleFault("say 1; ", 7, 0);
        ruleFault("say 1;;say 1", 6, 0);
        ruleFault("say 1 if 1 <", 12, 0);
        ruleFault("say 1 if 1 <=", 13, 0);
        ruleFault("say 1 if 1 >=", 13, 0);
        ruleFault("say 1 if 1 < 2 and", 18, 0);
        ruleFault("say 1 if 1 < 2 or ", 18, 0);
        ruleFault("say not", 4, 0);
        ruleFault("say -1", 4, 0);
        ruleFault("say 1 * + 1", 8, 0);
        ruleFault("say 1 and 1", 6, 0);
        ruleFault("say 1 if 1 < not 2", 13, 0);
        ruleFault("say 1 if 1 < 2 < 3", 15, 0);
        ruleFault("say \u00ff", 4, 0);
        ruleFault("smith 1 1", 0, 0);
        ruleFault("may 1", 0, 0);
    }

    private static void ruleMoreDigits() {
        ruleFault("say 1 if 1 < 123456", 13, 1);
        ruleFault("say 1+" + "9".repeat(394), 6, 1);
        ruleFault("say 4294967296", 4, 1);
    }

    private static void ruleTooDeep() {
        ruleFault("say 1 if " + "[".repeat(10) + " [1<2", 20, 2);
        ruleFault("say 1 if " + "[".repeat(10) + "  not 1<2", 21, 2);
        ruleFault("say 1 if " + "not ".repeat(10) + "[1<2]", 49, 2);
    }

    private static void ruleTooMany() {
        ruleFault(SIXTY + " + day", 126, 3);
        ruleFault(SIXTY + " +  99999", 127, 3);
        ruleFault("say 1" + "+1".repeat(58) + " if 1  <= 2", 128, 3);
        ruleFault("say 1" + "+1".repeat(57) + " if 1 < 22", 127, 3);
        ruleFault(SIXTY + " if  saying = 1", 128, 3);
        ruleFault(SIXTY + ";say pair", 128, 3);
    }

    private static void ruleClauses() {
        String twelve = "say 1" + ";say 1".repeat(11);
        ruleFault(twelve + "; say 1", 73, 4);
        ruleFault(twelve + ";say", 72, 4);
        ruleFault(twelve + ";say1", 72, 4);
    }

    private static void ruleLeast() {
        ruleFault(SIXTY + "+123456", 124, 1);
        ruleFault(SIXTY + "+x", 124, 0);
        ruleFault(SIXTY + "+", 124, 0);
        ruleFault(SIXTY + " if [x", 128, 0);
        ruleFault("say 1" + ";say 1".repeat(11) + ";says 1", 72, 0);
        ruleFault("say 1" + ";say 1".repeat(11) + ";", 72, 0);
        ruleFault("say 1 if " + "[".repeat(10) + "nots", 19, 0);
    }

    // ---- 6 ----

    private static void force() {
        sentence(6, "A RULE is IN FORCE (NONE: none): which was", TextBoundaries::whichWas);
        sentence(6, "-2, and nothing happens, if there is none such", TextBoundaries::noneSuch);
    }

    private static void whichWas() {
        RowRing r = new RowRing();
        for (int i = 0; i < 6; i++) {
            rule(r, "say 0");
        }
        due("force(5)", r.force(5), NONE);
        due("force(5) again", r.force(5), 5);
        due("force(0)", r.force(0), 5);
        due("force(NONE)", r.force(NONE), 0);
        due("force(NONE) again", r.force(NONE), NONE);
        due("the RULE IN FORCE", r.count(5), NONE);
    }

    private static void noneSuch() {
        RowRing r = ring("smith 1 1", "say 0", "say 1");
        for (int n : new int[] {2, 5, 6, -2, LOWEST, HIGHEST}) {
            refused(r, "force(" + n + ")", () -> r.force(n), -2);
        }
        due("the RULE IN FORCE", r.count(5), 1);
    }
}
