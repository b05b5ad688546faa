/** Each promise of the document, with answers worked out by hand. */
public final class RowRingPromisesTest extends RowRingChecks {
    // Hurts: pair 0 by 5 and 6, pair 1 by 4 and 8, pair 2 by 4 and 6; pairs 0 and 1 are near each other.
    private static final String THREE = "smith 15 4;pair 3 12;pair 0 9;pair 7 30;"
        + "saying 4;saying 6;minds 0 0 1;minds 1 1 2;near 0 1";
    private static final String GENTLE = "say 9 - hurt - said * 3";

    public static void main(String[] args) {
        newObject();
        feeding();
        ending();
        smithyFaults();
        smithyTaken();
        ruleFaults();
        ruleDepths();
        ruleParts();
        rulesTaken();
        forcing();
        pairsAsked();
        sayingsAsked();
        daysWithoutRule();
        daysByRule();
        daysByWords();
        daysByTests();
        dayEdges();
        sayingByHand();
        soothing();
        doorLeftOpen();
        undoing();
        lookingAhead();
        quarrels();
        bringing();
        smoothing();
        striking();
        stayingHome();
        benching();
        partingGold();
        hearing();
        gaming();
        sparking();
        calming();
        largestRows();
        noting();
        ruling();
        looking();
        seeding();
        drawnDoors();
        counting();
        imaging();
        askingChangesNothing();
        finish();
    }

    // ---- 1 to 6: texts ----

    private static void newObject() {
        due("NONE", RowRing.NONE, -1);
        RowRing r = new RowRing();
        for (int what = 0; what < 14; what++) {
            due("new: count(" + what + ")", r.count(what), what == 5 ? NONE : 0);
        }
        due("new: pair", r.pair(0, 0), NONE);
        due("new: saying", r.saying(0, 0, 0), NONE);
        due("new: day", r.day(), NONE);
        due("new: say", r.say(0, 0), NONE);
        due("new: soothe", r.soothe(0, 1), NONE);
        due("new: door", r.door(), NONE);
        due("new: undo", r.undo(), NONE);
        due("new: ahead", r.ahead(0, 0, 2), NONE);
        due("new: quarrel", r.quarrel(0, 0), NONE);
        due("new: bring", r.bring(0, 1, 0), NONE);
        due("new: smooth", r.smooth(0), NONE);
        due("new: strike", r.strike(1, 0), NONE);
        due("new: home", r.home(1, 0), -2);
        due("new: benches", r.benches(NONE), -3);
        due("new: gold", r.gold(1, 0), NONE);
        due("new: heard", r.heard(0, 0, 0), NONE);
        due("new: game", r.game(0, 1, 0), NONE);
        due("new: spark", r.spark(0), NONE);
        due("new: calm", r.calm(1, 0), -2);
        due("new: largest", r.largest(1, 0), NONE);
        due("new: note", r.note(0, 0, 0), -2);
        due("new: note of none", r.note(NONE, 0, 0), 0);
        due("new: ruled", r.ruled(0), -3);
        due("new: look", r.look(0, 0), NONE);
        due("new: doors", r.doors(1, 1, 0, 0), NONE);
        due("new: force none", r.force(NONE), NONE);
        due("new: force 0", r.force(0), -2);
        due("new: back", r.back(0), NONE);
        due("new: image", r.image(0), 0);
        due("new: back to it", r.back(0), 0);
    }

    private static void feeding() {
        RowRing r = new RowRing();
        // "smith 9 8;pair 7 6  "
        due("feed", r.feed(0x736d6974, 0x68203920, 0x383b7061, 0x69722037, 0x20362020), 20);
        due("smith of what was fed", r.smith(), 1);
        due("widest", r.count(0), 9);
        due("wear", r.count(1), 8);
        due("temper", r.pair(0, 0), 7);
        due("breaks", r.pair(0, 1), 6);
        for (int i = 1; i <= 20; i++) {
            due("feed " + i, r.feed(-1, 0, HIGHEST, LOWEST, i), 20 * i);
        }
        due("feed beyond 400", r.feed(1, 2, 3, 4, 5), NONE);
        due("bytes", r.count(13), 400);
        r.end(381);
        due("feed 20 behind 381", r.feed(1, 2, 3, 4, 5), NONE);
        due("bytes", r.count(13), 381);
        r.end(380);
        due("feed 20 behind 380", r.feed(1, 2, 3, 4, 5), 400);
    }

    private static void ending() {
        RowRing r = new RowRing();
        due("end(0) of nothing", r.end(0), 0);
        due("end(1) of nothing", r.end(1), NONE);
        r.feed(0x736d6974, 0x68203920, 0x39202020, 0, 0);
        due("end(21) of 20", r.end(21), NONE);
        due("end(-1)", r.end(-1), NONE);
        due("end(lowest)", r.end(LOWEST), NONE);
        due("end(highest)", r.end(HIGHEST), NONE);
        due("bytes", r.count(13), 20);
        due("end(20) of 20", r.end(20), 20);
        due("end(7)", r.end(7), 7);
        due("bytes", r.count(13), 7);
        due("end(8) of 7", r.end(8), NONE);
        due("feed behind 7", r.feed(0x20352020, 0x20202020, 0x20202020, 0x20202020, 0x20202020), 27);
        due("smith of 'smith 9' and ' 5'", r.smith(), 0);
        due("wear", r.count(1), 5);
    }

    private static void smithyFaults() {
        smithFault("", 0, 0);
        smithFault("   ", 3, 0);
        smithFault("smith", 5, 0);
        smithFault("smith 1", 7, 0);
        smithFault("smith 0 1", 6, 1);
        smithFault("smith 100 1", 6, 1);
        smithFault("smith 1 0", 8, 1);
        smithFault("smith 1 10", 8, 1);
        smithFault("smith 000001 1", 6, 1);
        smithFault("smith 1234567890123 1", 6, 1);
        smithFault("smith x 1", 6, 0);
        smithFault("smith 1x 1", 7, 0);
        smithFault("smith 1,1", 7, 0);
        smithFault("smiths 1 1", 0, 0);
        smithFault("Smith 1 1", 0, 0);
        smithFault("smit 1 1", 0, 0);
        smithFault(" say 1", 1, 0);
        smithFault("1 1", 0, 0);
        smithFault("pair 0 1", 0, 4);
        smithFault("  saying 1", 2, 4);
        smithFault("pair x", 0, 4);
        smithFault("smith 1 1;", 10, 0);
        smithFault("smith 1 1; ", 11, 0);
        smithFault("smith 1 1;;", 10, 0);
        smithFault("smith 1 1 1", 10, 0);
        smithFault("smith 1 1 pair 0 1", 10, 0);
        smithFault("smith 1 1\0", 9, 0);
        smithFault("smith 1 1\u00e9", 9, 0);
        smithFault("smith\t1 1", 5, 0);
        smithFault("smith 1 1;smith 1 1", 10, 4);
        smithFault("smith 1 1;pair 100 1", 15, 1);
        smithFault("smith 1 1;pair 0 0", 17, 1);
        smithFault("smith 1 1;pair 0 100", 17, 1);
        smithFault("smith 1 1;saying 10", 17, 1);
        smithFault("smith 1 1;saying", 16, 0);
        smithFault("smith 1 1;minds 0 0 0", 16, 1);
        smithFault("smith 1 1;pair 0 1;minds 0 0 0", 27, 1);
        smithFault("smith 1 1;pair 0 1;saying 0;minds 0 0 21", 38, 1);
        smithFault("smith 1 1;pair 0 1;saying 0;minds 1 0 0", 34, 1);
        smithFault("smith 1 1;pair 0 1;saying 0;minds 0 1 0", 36, 1);
        smithFault("smith 1 1;pair 0 1;saying 0;minds 0 0", 37, 0);
        smithFault("smith 1 1;near 0 1", 15, 1);
        smithFault("smith 1 1;pair 0 1;near 0 0", 26, 1);
        smithFault("smith 1 1;pair 0 1;near 0 1", 26, 1);
        smithFault("smith 1 1;pair 0 1;near 0", 25, 0);
        // A pair that is told only later was not told.
        smithFault("smith 1 1;pair 0 1;near 0 1;pair 0 1", 26, 1);
        String five = "smith 1 1" + ";pair 0 1".repeat(5);
        smithFine(five, 5);
        smithFault(five + ";pair 0 1", 55, 4);
        smithFault(five + ";pair x", 55, 4);
        smithFault(five + ";pairs 0 1", 55, 0);
        String six = "smith 1 1" + ";saying 0".repeat(6);
        smithFine(six, 0);
        smithFault(six + ";saying 0", 64, 4);
        String forty = "smith 1 1;pair 0 1;pair 0 1" + ";near0 1".repeat(37);
        smithFine(forty, 2);
        smithFault(forty + ";near0 1", 324, 4);
        smithFault(forty + ";nears", 324, 0);
        smithFault(forty + ";", 324, 0);
        smithFault(forty + " 1", 324, 0);
        smithFine("smith1 1;pair00002 3 ; saying9;minds 0 0 20;minds 0 0 1", 1);
        smithFine("   smith   99    9   ", 0);
        smithFine("smith 1 1" + " ".repeat(391), 0);
    }

    private static void smithyTaken() {
        RowRing r = ring(THREE, GENTLE);
        r.seed(77);
        r.note(1, 0, 0);
        days(r, 2);
        r.say(2, 0);
        String before = all(r);
        int acts = r.count(11);
        due("a smithy with a fault", smith(r, "smith 1 1;pair 0"), fault(16, 0));
        due("its bytes are gone", r.count(13), 0);
        due("an empty tape is the next smithy", r.smith(), fault(0, 0));
        same("behind a fault all else stays", all(r), before);
        due("acts can be undone behind a fault", r.undo(), acts - 1);
        r.say(2, 0);
        same("behind the act done again", all(r), before);
        // What is fed behind a fault is a text of its own.
        due("feed behind a fault", r.feed(0x736d6974, 0x68203920, 0x383b7061, 0x69722037, 0x20362020), 20);
        due("a smithy without the bytes of the fault", r.smith(), 1);
        due("its widest", r.count(0), 9);
        due("bytes behind a smithy", r.count(13), 0);
        due("the rule in force stays", r.count(5), 0);
        due("a smithy in its place", smith(r, "smith 9 8;pair 1 2;pair 3 4;saying 5;near 1 0;near 0 1"), 2);
        int[] counts = {9, 8, 2, 1, 1, 0, 0, 0, 0, 0, 0, 0, 77, 0};
        for (int what = 0; what < counts.length; what++) {
            due("a new smithy: count(" + what + ")", r.count(what), counts[what]);
        }
        due("temper", r.pair(1, 0), 3);
        due("breaks", r.pair(1, 1), 4);
        due("near", r.pair(0, 4), 2);
        due("near", r.pair(1, 4), 1);
        due("minds of the old one", r.saying(0, 0, 0), 5);
        due("said", r.saying(0, 0, 1), 0);
        due("no pair 2", r.pair(2, 0), NONE);
        due("the same without near", smith(r, "smith 9 8;pair 1 2;pair 3 4;saying 5"), 2);
        due("near of the old one", r.pair(0, 4), 0);
        due("near of the old one", r.pair(1, 4), 0);
        r.say(0, 0);
        due("a band", r.pair(0, 3), 6);
        due("the same once more", smith(r, "smith 9 8;pair 1 2;pair 3 4;saying 5"), 2);
        due("no size", r.pair(0, 3), 0);
        due("no band", r.pair(0, 2), 0);
        due("of the same two the last", ring("smith 1 1;pair 0 1;saying 2;minds 0 0 9;minds 0 0 3").saying(0, 0, 0), 5);
        due("of the same two the last", ring("smith 1 1;pair 0 1;saying 2;minds 0 0 9;minds 0 0 0").saying(0, 0, 0), 2);
        due("near is not said of others", ring("smith 1 1;pair 0 1;pair 0 1;pair 0 1;near 2 0").pair(1, 4), 0);
    }

    private static void ruleFaults() {
        ruleFault("", 0, 0);
        ruleFault("  ", 2, 0);
        ruleFault("say", 3, 0);
        ruleFault("says 1", 0, 0);
        ruleFault("smith 1 1", 0, 0);
        ruleFault("say x", 4, 0);
        ruleFault("say sayingx", 4, 0);
        ruleFault("say 1;", 6, 0);
        ruleFault("say 1;;say 1", 6, 0);
        ruleFault("say 1 if", 8, 0);
        ruleFault("say 5 %", 7, 0);
        ruleFault("say 1 if said = 1]", 17, 0);
        ruleFault("say 123456", 4, 1);
        ruleFault("say 1+000001", 6, 1);
        ruleFault("say 1 1", 6, 0);
        ruleFault("say 1 123456", 6, 0);
        ruleFault("say -1", 4, 0);
        ruleFault("say (1)", 4, 0);
        ruleFault("say [1]", 4, 0);
        ruleFault("say not", 4, 0);
        ruleFault("say if 1 < 2", 4, 0);
        ruleFault("say 1 if if", 9, 0);
        ruleFault("say 1 if 1", 10, 0);
        ruleFault("say 1 if 1 < ", 13, 0);
        ruleFault("say 1 if 1 < = 2", 13, 0);
        ruleFault("say 1 if 1 <=", 13, 0);
        ruleFault("say 1 if 1 >= ", 14, 0);
        ruleFault("say 1 if 1 == 2", 12, 0);
        ruleFault("say 1 if 1 =< 2", 12, 0);
        ruleFault("say 1 if 1 <> 2", 12, 0);
        ruleFault("say 1 if 1 ! 2", 11, 0);
        ruleFault("say 1 if 1 < 2 < 3", 15, 0);
        ruleFault("say 1 if [1 < 2", 15, 0);
        ruleFault("say 1 if [1 < 2;say 1", 15, 0);
        ruleFault("say 1 if 1 < 2 + [", 17, 0);
        ruleFault("say 1 if [1 < 2] + 1 > 0", 17, 0);
        ruleFault("say 1 if [1 < 2] [", 17, 0);
        ruleFault("say 1 if [1] < 2", 11, 0);
        ruleFault("say 1 if []", 10, 0);
        ruleFault("say hurt if hurt", 16, 0);
        ruleFault("say 1 < 2", 6, 0);
        ruleFault("say 1 or 2", 6, 0);
        ruleFault("say 1 if 1 < 2 if 2 < 3", 15, 0);
        ruleFault("say 1 if 1 < 2 and", 18, 0);
        ruleFault("say 1 if 1 < 2 or or", 18, 0);
        ruleFault("say 1 if and", 9, 0);
        ruleFault("say 1 if not", 12, 0);
        ruleFault("say 1 if 1 < not 2", 13, 0);
        ruleFault("say 1 if 1 + not 1 < 2", 13, 0);
        ruleFault("say 1 if 1 and 2 < 3", 11, 0);
        ruleFault("say 1\0", 5, 0);
        ruleFault("say \u00ff", 4, 0);
        ruleFault("say Hurt", 4, 0);
        ruleFault("say 1 and 1 < 2", 6, 0);
        ruleFine("say1if1<2or[hurt>=3and not pair=4]");
        ruleFine(" say  1  if  not  [  1  <  2  ]  ;  say  99999 % 0 ");
        ruleFine("say 00001 if [[1 < 2]] and not not 2 > 1");
        ruleFine("say pair + saying - temper * breaks / hurt % minds + said + near + bands + rows + day");
    }

    private static void ruleDepths() {
        ruleFine("say 1 if " + "not ".repeat(10) + "1<2");
        ruleFault("say 1 if " + "not ".repeat(11) + "1<2", 49, 2);
        ruleFine("say 1 if " + "[".repeat(10) + "1<2" + "]".repeat(10));
        ruleFault("say 1 if " + "[".repeat(11) + "1<2" + "]".repeat(11), 19, 2);
        ruleFault("say 1 if " + "[".repeat(10) + "not 1<2", 19, 2);
        ruleFault("say 1 if " + "[".repeat(10) + "nots", 19, 0);
        ruleFine("say 1 if " + "not [".repeat(5) + "1<2" + "]".repeat(5));
        ruleFault("say 1 if " + "not [".repeat(5) + "not 1<2", 34, 2);
        // Beside one another they are not within one another.
        ruleFine("say 1 if not 1<2" + " and not [1<2]".repeat(14));
        ruleFine("say 1 if [1<2" + "] or [1<2".repeat(14) + "]");
        ruleFine("say 1 if " + "[".repeat(8) + "not 1<2 and not [1<2" + "]".repeat(9));
        ruleFault("say 1 if " + "[".repeat(9) + "not 1<2 and not [1<2" + "]".repeat(10), 34, 2);
        ruleFine("say 1 if not not not 1<2;say 1 if " + "not ".repeat(10) + "1<2");
    }

    private static void ruleParts() {
        ruleFine("say 1" + "+1".repeat(59));
        ruleFault("say 1" + "+1".repeat(60), 124, 3);
        ruleFault("say 1" + "+1".repeat(59) + "+day", 124, 3);
        ruleFault("say 1" + "+1".repeat(59) + "+123456", 124, 1);
        ruleFault("say 1" + "+1".repeat(59) + "+x", 124, 0);
        ruleFault("say 1" + "+1".repeat(59) + "+", 124, 0);
        ruleFine("say 1" + "+1".repeat(56) + " if 1<2");
        ruleFault("say 1" + "+1".repeat(57) + " if 1<2", 125, 3);
        ruleFault("say 1" + "+1".repeat(58) + " if 1<=2", 126, 3);
        ruleFault("say 1" + "+1".repeat(58) + " if 1 + < 2", 129, 0);
        ruleFault("say 1" + "+1".repeat(59) + " if 1<2", 127, 3);
        // They are counted over all clauses.
        String five = "say 1+1+1+1+1;".repeat(11) + "say 1+1+1+1+1";
        ruleFine(five);
        ruleFault(five + "+1", 168, 3);
        String twelve = "say 1;".repeat(11) + "say 1";
        ruleFine(twelve);
        ruleFault(twelve + ";say 1", 72, 4);
        ruleFault(twelve + ";say", 72, 4);
        ruleFault(twelve + ";sax 1", 72, 0);
        ruleFault(twelve + ";", 72, 0);
    }

    /** The rule that is the first n bytes of a text. */
    private static int cutRule(RowRing r, String text, int n) {
        tell(r, text);
        r.end(n);
        return r.rule();
    }

    private static void rulesTaken() {
        RowRing r = new RowRing();
        due("a rule with a fault", rule(r, "say 1 if"), fault(8, 0));
        due("rules", r.count(4), 0);
        due("its bytes are gone", r.count(13), 0);
        due("an empty tape is the next rule", r.rule(), fault(0, 0));
        // "say 1234567890123456", whose fault lies ahead of its end
        r.feed(0x73617920, 0x31323334, 0x35363738, 0x39303132, 0x33343536);
        due("a rule with a fault of a number", r.rule(), fault(4, 1));
        due("its bytes are gone, too", r.count(13), 0);
        // "say 1" and blanks
        r.feed(0x73617920, 0x31202020, 0x20202020, 0x20202020, 0x20202020);
        due("a text of its own behind a fault", r.rule(), 0);
        due("rules", r.count(4), 1);
        r = new RowRing();
        // What was read of a text with a fault leaves nothing behind.
        String long60 = "say 1" + "+1".repeat(57) + " if [[[[[[[[[[1";
        due("a long and deep one", rule(r, long60), fault(long60.length(), 0));
        due("bytes behind the end are not read", cutRule(r, "say 1 if 1 <=2", 12), fault(12, 0));
        due("bytes behind the end are not read", cutRule(r, "say hurtful", 8), 0);
        r = ring("smith 9 1;pair 0 99;saying 5");
        rule(r, "say 0-9;say 1;say [");
        due("a deep one behind faults", rule(r, "say 1" + "+1".repeat(50) + " if " + "not ".repeat(10) + "1<2"), 0);
        r.force(0);
        r.day();
        due("it is all that is taken", r.saying(0, 0, 1), 1);
        r = new RowRing();
        for (int i = 0; i < 6; i++) {
            due("rule " + i, rule(r, "say " + i), i);
            due("bytes", r.count(13), 0);
            due("rules", r.count(4), i + 1);
        }
        due("a seventh rule", rule(r, "say 1"), NONE);
        due("its bytes stay", r.count(13), 5);
        due("a seventh rule once more", r.rule(), NONE);
        due("its bytes stay", r.count(13), 5);
        due("a seventh rule with a fault", rule(r, "say"), NONE);
        due("its bytes stay", r.count(13), 3);
        due("rules", r.count(4), 6);
        due("none is in force by that", r.count(5), NONE);
    }

    private static void forcing() {
        RowRing r = new RowRing();
        rule(r, "say 1");
        rule(r, "say 2");
        due("force(2)", r.force(2), -2);
        due("force(-2)", r.force(-2), -2);
        due("force(lowest)", r.force(LOWEST), -2);
        due("force(highest)", r.force(HIGHEST), -2);
        due("in force", r.count(5), NONE);
        due("force(1)", r.force(1), NONE);
        due("in force", r.count(5), 1);
        due("force(0)", r.force(0), 1);
        due("force(NONE)", r.force(NONE), 0);
        due("in force", r.count(5), NONE);
    }

    // ---- 7 and 8 ----

    private static void pairsAsked() {
        RowRing r = ring(THREE);
        int[][] want = {{3, 12, 0, 0, 2}, {0, 9, 0, 0, 1}, {7, 30, 0, 0, 0}};
        for (int p = 0; p < 3; p++) {
            for (int what = 0; what < 5; what++) {
                due("pair(" + p + ", " + what + ")", r.pair(p, what), want[p][what]);
            }
        }
        days(r, 5);
        due("a band as wide as may be", r.pair(2, 2), 15);
        due("its size", r.pair(2, 3), 33);
        due("near ones with a band", r.pair(0, 4), 2);
        due("pair(0, 5)", r.pair(0, 5), NONE);
        due("pair(0, -1)", r.pair(0, -1), NONE);
        due("pair(3, 0)", r.pair(3, 0), NONE);
        due("pair(-1, 0)", r.pair(-1, 0), NONE);
        due("pair(lowest, 0)", r.pair(LOWEST, 0), NONE);
        due("pair(highest, highest)", r.pair(HIGHEST, HIGHEST), NONE);
    }

    private static void sayingsAsked() {
        RowRing r = ring(THREE);
        int[][] hurts = {{5, 6}, {4, 8}, {4, 6}};
        for (int p = 0; p < 3; p++) {
            for (int s = 0; s < 2; s++) {
                due("saying(" + p + ", " + s + ", 0)", r.saying(p, s, 0), hurts[p][s]);
                due("saying(" + p + ", " + s + ", 1)", r.saying(p, s, 1), 0);
            }
        }
        days(r, 3);
        due("said by 2", r.saying(2, 1, 1), 3);
        due("said by 0", r.saying(0, 1, 1), 1);
        due("never said", r.saying(2, 0, 1), 0);
        due("saying(3, 0, 0)", r.saying(3, 0, 0), NONE);
        due("saying(-1, 0, 0)", r.saying(-1, 0, 0), NONE);
        due("saying(0, 2, 0)", r.saying(0, 2, 0), NONE);
        due("saying(0, -1, 0)", r.saying(0, -1, 0), NONE);
        due("saying(0, 0, 2)", r.saying(0, 0, 2), NONE);
        due("saying(0, 0, -1)", r.saying(0, 0, -1), NONE);
        due("saying(highest ..)", r.saying(HIGHEST, LOWEST, HIGHEST), NONE);
    }

    // ---- 9: days ----

    private static void daysWithoutRule() {
        RowRing r = ring(THREE);
        // 0 says 1: 9, and 1 hears 3; 1 says 1: 11, and 0 hears 3: 12; both have a row. 2 says 1: 13.
        due("day 0", r.day(), 3);
        due("temper 2", r.pair(2, 0), 12);
        due("wide 0", r.pair(0, 2), 12);
        due("size 0", r.pair(0, 3), 12);
        due("temper 0", r.pair(0, 0), 0);
        due("wide 1", r.pair(1, 2), 11);
        due("rows", r.count(8), 2);
        due("day", r.count(6), 1);
        due("day 1", r.day(), 0);
        due("day 2", r.day(), 0);
        due("day 3", r.day(), 0);
        due("temper 2", r.pair(2, 0), 27);
        due("day 4", r.day(), 4);
        due("size 2", r.pair(2, 3), 33);
        days(r, 4);
        due("wide 0 ahead of day 9", r.pair(0, 2), 12);
        due("day 9", r.day(), 0);
        due("wide 0", r.pair(0, 2), 8);
        due("wide 1", r.pair(1, 2), 7);
        due("wide 2", r.pair(2, 2), 11);
        due("size 2 stays", r.pair(2, 3), 33);
        days(r, 20);
        due("day", r.count(6), 30);
        due("a band of 0 is smooth", r.pair(0, 2), 0);
        due("its size", r.pair(0, 3), 0);
        due("a band below 0 is smooth", r.pair(1, 2), 0);
        due("wide 2", r.pair(2, 2), 3);
        due("bands", r.count(7), 4);
        // 0 says 1: 6, 1 hears 3, says 1: 11, a row; 0 hears 3: 9.
        due("day 30", r.day(), 2);
        due("temper 0", r.pair(0, 0), 8);
        due("day 31", r.day(), 1);
        due("size 0", r.pair(0, 3), 14);
        due("rows", r.count(8), 5);
    }

    private static void daysByRule() {
        RowRing r = ring(THREE, GENTLE);
        due("day 0", r.day(), 0);
        due("temper 0", r.pair(0, 0), 9);
        due("temper 1", r.pair(1, 0), 5);
        due("temper 2", r.pair(2, 0), 10);
        // 0 says 1: 15, a row, 1 hears 3: 8; 1 says 1: 16, a row.
        due("day 1", r.day(), 3);
        due("size 1", r.pair(1, 3), 16);
        due("wide 1", r.pair(1, 2), 15);
        due("temper 2", r.pair(2, 0), 15);
        due("day 2", r.day(), 0);
        due("temper 2", r.pair(2, 0), 18);
        // Now no sum is above 0.
        due("day 3", r.day(), 0);
        due("temper 2", r.pair(2, 0), 17);
        due("said by 2", r.saying(2, 0, 1), 2);
        r.force(NONE);
        due("day 4 by no rule", r.day(), 0);
        due("temper 2", r.pair(2, 0), 22);
        // A pair that heard enough on this very day has a band when its turn comes.
        RowRing s = ring("smith 9 1;pair 0 99;pair 0 2;saying 5;near 0 1");
        due("a row by hearing", s.day(), 2);
        due("it does not speak", s.saying(1, 0, 1), 0);
        due("temper 0", s.pair(0, 0), 4);
        // Of several the least; nothing without a hurt, nothing without a sum above 0.
        RowRing t = ring("smith 9 1;pair 0 99;saying 0;saying 3;saying 3");
        t.day();
        due("the least of several", t.saying(0, 1, 1), 1);
        RowRing u = ring("smith 9 1;pair 0 99;saying 0;saying 0");
        u.day();
        due("nothing hurts", u.saying(0, 0, 1), 0);
        RowRing v = ring("smith 9 1;pair 0 99;saying 0;saying 9", "say 2");
        v.day();
        due("by a rule one that does not hurt", v.saying(0, 0, 1), 1);
        RowRing w = ring("smith 9 1;pair 0 99;saying 5", "say 0");
        w.day();
        due("a sum of 0", w.saying(0, 0, 1), 0);
        RowRing x = ring("smith 9 1;pair 0 99;saying 5", "say 1 - 2");
        x.day();
        due("a sum below 0", x.saying(0, 0, 1), 0);
    }

    private static void word(RowRing r, int pair, int saying, String word, int value) {
        r.image(3);
        String where = " and pair = " + pair + " and saying = " + saying;
        for (int off = -1; off <= 1; off++) {
            int number = rule(r, "say 1 if " + word + " + 1 = " + (value + off + 1) + where);
            r.force(number);
            int before = r.saying(pair, saying, 1);
            r.day();
            due(word + " of pair " + pair + " is " + (value + off), r.saying(pair, saying, 1) - before,
                off == 0 ? 1 : 0);
            r.back(3);
        }
    }

    private static void daysByWords() {
        String smithy = "smith 9 1;pair 2 9;pair 6 70;pair 0 60;pair 0 1;saying 3;saying 8;minds 1 0 7;"
            + "near 1 0;near 1 2;near 1 3";
        String[] words = {"pair", "saying", "temper", "breaks", "hurt", "minds", "said", "near", "bands", "rows",
            "day"};
        // Pair 0 says 1 and has a row; 1 hears 4 and says 0, 10 more; 2 and 3 hear 1, and 3 has a row.
        int[] values = {1, 0, 19, 70, 3, 7, 1, 1, 2, 2, 1};
        for (int i = 0; i < words.length; i++) {
            RowRing r = ring(smithy, "say 1 if pair = 0 and saying = 1 or pair = 1 and saying = 0");
            due("rows of the day", r.day(), 9);
            word(r, 1, 0, words[i], values[i]);
        }
        RowRing r = ring(smithy);
        word(r, 2, 1, "hurt", 8);
        r = ring(smithy);
        word(r, 2, 1, "minds", 0);
        r = ring(smithy);
        // Ahead of pair 2 nobody said anything by that rule.
        word(r, 2, 1, "near", 1);
        r = ring(smithy);
        word(r, 1, 0, "near", 3);
    }

    private static void daysByTests() {
        holds("1 < 2", true);
        holds("2 < 2", false);
        holds("2 <= 2", true);
        holds("3 <= 2", false);
        holds("2 = 2", true);
        holds("2 = 3", false);
        holds("2 >= 2", true);
        holds("2 >= 3", false);
        holds("3 > 2", true);
        holds("2 > 2", false);
        holds("not 1 < 2", false);
        holds("not not 1 < 2", true);
        holds("not 1 > 2 and 1 > 2", false);
        holds("not [1 > 2 and 1 > 2]", true);
        holds("not 1 < 2 or 1 < 2", true);
        holds("not [1 < 2 or 1 < 2]", false);
        holds("1 < 2 or 1 < 2 and 1 > 2", true);
        holds("[1 < 2 or 1 < 2] and 1 > 2", false);
        holds("1 > 2 and 1 < 2 or 1 < 2", true);
        holds("1 > 2 and [1 < 2 or 1 < 2]", false);
        holds("1 > 2 or 1 > 2 or 1 < 2", true);
        // A sign stands between whole sums: by the value beside it alone these would hold.
        holds("2 < 0 + 1", false);
        holds("3 <= 1 + 1", false);
        holds("3 = 2 + 2", false);
        holds("3 >= 2 + 2", false);
        holds("3 > 2 + 1", false);
        holds("3 - 1 < 1 * 2", false);
        holds("1 + 2 <= 1 + 1", false);
        holds("1 + 3 = 1 + 2", false);
        holds("1 + 2 >= 2 * 2", false);
        holds("2 + 1 > 2 + 1", false);
        holds("2 + 3 * 4 = 14", true);
        holds("2 * 3 + 4 = 10", true);
        holds("9 - 3 - 2 = 4", true);
        holds("9 - 3 + 2 = 8", true);
        holds("24 / 4 / 2 = 3", true);
        holds("24 / 4 * 2 = 12", true);
        holds("17 % 10 % 4 = 3", true);
        holds("3 * 17 % 10 = 1", true);
        holds("7 / 2 = 3", true);
        holds("7 / 0 = 0", true);
        holds("7 % 0 = 0", true);
        holds("1 - 2 < 0", true);
        holds("1 - 7 / 2 + 2 = 0", true);
        holds("temper = 7", true);
        // The fifth power of 99999 goes round to -337012131482191585.
        String round = "99999*99999*99999*99999*99999";
        holds(round + " < 0", true);
        holds("585 + " + round + " % 1000 = 0", true);
        holds("191 + " + round + " / 1000 % 1000 = 0", true);
        RowRing r = ring("smith 9 1;pair 7 99;saying 4;saying 5;saying 6",
            "say 0 if saying = 2;say 5 if saying = 1;say 9 if saying = 2;say 4;say 99");
        r.day();
        due("the first clause that holds", r.saying(0, 1, 1), 1);
        r = ring("smith 9 1;pair 7 99;saying 4;saying 5;saying 6", "say 0 - 3 if saying < 2;say 0 - 5");
        r.day();
        due("temper but for the day", r.pair(0, 0), 6);
        r = ring("smith 9 1;pair 7 99;saying 4;saying 5", "say 3 if day = 1");
        r.day();
        due("no clause holds", r.saying(0, 0, 1), 0);
        r.day();
        due("of several the least", r.saying(0, 0, 1), 1);
    }

    private static void dayEdges() {
        RowRing none = ring("smith 9 1");
        due("a day without pairs", none.day(), 0);
        due("day", none.count(6), 1);
        due("it can be undone", none.count(11), 1);
        RowRing still = ring("smith 9 1;pair 5 1;pair 5 3");
        due("above breaks, but nothing said", still.day(), 0);
        due("temper", still.pair(0, 0), 4);
        // On day 9 a band wears on the very day on which it is made.
        RowRing thin = ring("smith 3 2;pair 0 1;saying 4", "say 1 if day = 9");
        days(thin, 9);
        due("day 9", thin.day(), 1);
        due("wide", thin.pair(0, 2), 1);
        due("size", thin.pair(0, 3), 4);
        RowRing gone = ring("smith 3 3;pair 0 1;saying 4", "say 1 if day = 9");
        days(gone, 9);
        due("day 9", gone.day(), 1);
        due("wide", gone.pair(0, 2), 0);
        due("size", gone.pair(0, 3), 0);
        due("rows", gone.count(8), 1);
        RowRing last = ring("smith 9 1;pair 0 5;saying 0");
        // What a call answers behind the 512th is free, but day 999 is not to be had by fewer.
        for (int i = 0; i < 999; i++) {
            last.day();
        }
        due("day", last.count(6), 999);
        due("day 999", last.day(), NONE);
        due("day", last.count(6), 999);
        due("days that are asked go on", last.ahead(0, 3, 0), 0);
    }

    // ---- 10 to 13: acts ----

    private static void sayingByHand() {
        RowRing r = ring(THREE, GENTLE);
        due("say(3, 0)", r.say(3, 0), NONE);
        due("say(-1, 0)", r.say(-1, 0), NONE);
        due("say(0, 2)", r.say(0, 2), NONE);
        due("say(0, -1)", r.say(0, -1), NONE);
        due("say(highest, lowest)", r.say(HIGHEST, LOWEST), NONE);
        due("nothing to undo", r.count(11), 0);
        due("say(0, 1)", r.say(0, 1), 0);
        due("temper 0", r.pair(0, 0), 9);
        due("temper 1", r.pair(1, 0), 3);
        due("temper 2", r.pair(2, 0), 7);
        due("said", r.saying(0, 1, 1), 1);
        due("not said by 1", r.saying(1, 1, 1), 0);
        due("say(1, 1)", r.say(1, 1), 3);
        due("wide 0", r.pair(0, 2), 12);
        due("wide 1", r.pair(1, 2), 11);
        due("rows", r.count(8), 2);
        due("day", r.count(6), 0);
        due("say with a band", r.say(1, 1), NONE);
        due("said", r.saying(1, 1, 1), 1);
        due("acts", r.count(11), 2);
        // Half of the hurt, downwards, and not of what they mind.
        RowRing h = ring("smith 9 1;pair 0 99;pair 0 99;pair 0 99;saying 7;minds 0 0 20;near 1 0");
        h.say(0, 0);
        due("temper 0", h.pair(0, 0), 27);
        due("temper 1", h.pair(1, 0), 3);
        due("temper 2", h.pair(2, 0), 0);
        // One who hears nothing more may have a row all the same.
        RowRing q = ring("smith 9 1;pair 0 99;pair 8 8;pair 8 8;saying 1;near 0 1");
        due("a row by a half of 1", q.say(0, 0), 2);
        due("size", q.pair(1, 3), 8);
        due("one who does not hear", q.pair(2, 2), 0);
        // One with a band hears nothing.
        due("again", q.say(0, 0), 0);
        due("temper 1", q.pair(1, 0), 0);
        // That one was asked about at home keeps nobody from hearing.
        RowRing asked = ring("smith 9 1;pair 0 99;pair 0 99;saying 8;near 0 1");
        asked.home(3, 0);
        asked.strike(3, 0);
        asked.say(0, 0);
        due("temper 1", asked.pair(1, 0), 4);
    }

    private static void soothing() {
        RowRing r = ring("smith 9 1;pair 30 99;pair 4 9;saying 9");
        due("soothe(0, 0)", r.soothe(0, 0), NONE);
        due("soothe(0, 21)", r.soothe(0, 21), NONE);
        due("soothe(0, -1)", r.soothe(0, -1), NONE);
        due("soothe(0, lowest)", r.soothe(0, LOWEST), NONE);
        due("soothe(2, 1)", r.soothe(2, 1), NONE);
        due("soothe(-1, 1)", r.soothe(-1, 1), NONE);
        due("soothe(1, 5) of 4", r.soothe(1, 5), NONE);
        due("temper 1", r.pair(1, 0), 4);
        due("nothing to undo", r.count(11), 0);
        due("soothe(0, 20)", r.soothe(0, 20), 10);
        due("temper 0", r.pair(0, 0), 10);
        due("soothe(1, 4) of 4", r.soothe(1, 4), 0);
        due("acts", r.count(11), 2);
        due("soothe(1, 1) of 0", r.soothe(1, 1), NONE);
        r.say(1, 0);
        due("soothe with a band", r.soothe(1, 1), NONE);
    }

    private static void doorLeftOpen() {
        RowRing r = ring("smith 9 1;pair 0 3;pair 1 5;pair 50 20;pair 0 4;saying 1");
        due("door", r.door(), 5);
        due("wide 0", r.pair(0, 2), 3);
        due("size 2", r.pair(2, 3), 53);
        due("wide 2", r.pair(2, 2), 9);
        due("temper 1", r.pair(1, 0), 4);
        due("temper 3", r.pair(3, 0), 3);
        due("rows", r.count(8), 2);
        due("day", r.count(6), 0);
        due("door", r.door(), 10);
        due("temper 0 stays", r.pair(0, 0), 0);
        due("wide 0 stays", r.pair(0, 2), 3);
        due("acts", r.count(11), 2);
        due("door, and each has a band", r.door(), NONE);
        due("acts", r.count(11), 2);
        due("door, and there are no pairs", ring("smith 9 1").door(), NONE);
    }

    private static void undoing() {
        RowRing r = ring(THREE, GENTLE);
        due("undo of nothing", r.undo(), NONE);
        String begin = all(r);
        r.say(1, 1);
        String one = all(r);
        r.day();
        String two = all(r);
        r.soothe(2, 3);
        r.door();
        due("acts", r.count(11), 4);
        due("undo", r.undo(), 3);
        due("undo", r.undo(), 2);
        same("behind the day", all(r), two);
        due("undo", r.undo(), 1);
        same("behind the saying", all(r), one);
        due("undo", r.undo(), 0);
        same("at the begin", all(r), begin);
        due("undo", r.undo(), NONE);
        for (int i = 0; i < 25; i++) {
            r.day();
        }
        due("acts", r.count(11), 20);
        for (int i = 19; i >= 0; i--) {
            due("undo", r.undo(), i);
        }
        due("day", r.count(6), 5);
        due("undo", r.undo(), NONE);
        RowRing s = ring(THREE, GENTLE);
        s.day();
        s.force(NONE);
        s.seed(5);
        s.note(2, 1, 7);
        s.undo();
        due("what is in force is no act", s.count(5), NONE);
        due("x is no act", s.count(12), 5);
        due("notes are no acts", s.count(10), 1);
        due("day", s.count(6), 0);
        // An act behind one that was undone takes its place.
        s.day();
        s.undo();
        s.door();
        due("acts", s.count(11), 1);
        s.undo();
        due("temper", s.pair(0, 0), 3);
    }

    // ---- 14 to 26: what is asked ----

    private static void lookingAhead() {
        RowRing r = ring(THREE);
        due("ahead(0, 0, 0)", r.ahead(0, 0, 0), 3);
        due("ahead(2, 1, 0)", r.ahead(2, 1, 0), 12);
        due("ahead(0, 1, 1)", r.ahead(0, 1, 1), 12);
        due("ahead(2, 5, 1)", r.ahead(2, 5, 1), 15);
        due("ahead(99, 1, 2)", r.ahead(99, 1, 2), 2);
        due("ahead(-1, 0, 2)", r.ahead(-1, 0, 2), 0);
        due("ahead(0, 29, 1)", r.ahead(0, 29, 1), 4);
        due("ahead(0, 30, 1)", r.ahead(0, 30, 1), 0);
        due("ahead(1, 31, 1)", r.ahead(1, 31, 1), 11);
        due("ahead(0, 31, 0)", r.ahead(0, 31, 0), 8);
        due("ahead(0, 32, 1)", r.ahead(0, 32, 1), 14);
        due("ahead(0, 32, 2)", r.ahead(0, 32, 2), 5);
        due("ahead(0, 101, 0)", r.ahead(0, 101, 0), NONE);
        due("ahead(0, -1, 0)", r.ahead(0, -1, 0), NONE);
        due("ahead(3, 0, 0)", r.ahead(3, 0, 0), NONE);
        due("ahead(-1, 0, 1)", r.ahead(-1, 0, 1), NONE);
        due("ahead(0, 0, 3)", r.ahead(0, 0, 3), NONE);
        due("ahead(0, 0, -1)", r.ahead(0, 0, -1), NONE);
        due("ahead(0, 101, 2)", r.ahead(0, 101, 2), NONE);
        r.day();
        due("rows so far, not in these", r.ahead(0, 4, 2), 3);
        RowRing far = ring("smith 9 1;pair 0 9;saying 9", "say 1 if day = 99");
        due("ahead(0, 99, 2)", far.ahead(0, 99, 2), 0);
        due("ahead(0, 100, 2)", far.ahead(0, 100, 2), 1);
        due("ahead by the rule in force", ring(THREE, GENTLE).ahead(2, 4, 0), 17);
    }

    private static void quarrels() {
        RowRing r = ring(THREE);
        due("quarrel(0, 0)", r.quarrel(0, 0), 0);
        due("quarrel(0, 1)", r.quarrel(0, 1), 12);
        due("quarrel(1, 1)", r.quarrel(1, 1), 11);
        due("quarrel(2, 0)", r.quarrel(2, 0), 4);
        due("quarrel(2, 1)", r.quarrel(2, 1), 33);
        r.day();
        due("quarrel of one with a band", r.quarrel(0, 0), NONE);
        due("quarrel(2, 0) from day 1", r.quarrel(2, 0), 4);
        due("quarrel(3, 0)", r.quarrel(3, 0), NONE);
        due("quarrel(-1, 0)", r.quarrel(-1, 0), NONE);
        due("quarrel(2, 2)", r.quarrel(2, 2), NONE);
        due("quarrel(2, -1)", r.quarrel(2, -1), NONE);
        due("quarrel by a rule", ring(THREE, GENTLE).quarrel(1, 1), 16);
        due("no quarrel", ring(THREE, GENTLE).quarrel(2, 0), -2);
        due("no quarrel", ring(THREE, GENTLE).quarrel(2, 1), -2);
        String one = "smith 1 9;pair 0 1;saying 5";
        due("on the last of 200 days", ring(one, "say 1 if day = 199").quarrel(0, 0), 199);
        due("behind 200 days", ring(one, "say 1 if day = 200").quarrel(0, 0), -2);
        // The band is smooth on the very day; the row was as large.
        due("its size", ring(one, "say 1 if day = 9").quarrel(0, 1), 5);
    }

    private static void bringing() {
        RowRing r = ring(THREE);
        int[][] want = {{11, -2, -2}, {12, -2, -2}, {13, 2, 0}, {14, 2, 0}, {15, 2, 1}, {16, -2, -2}};
        for (int[] w : want) {
            due("bring(0, " + w[0] + ", 0)", r.bring(0, w[0], 0), w[1]);
            due("bring(0, " + w[0] + ", 1)", r.bring(0, w[0], 1), w[2]);
        }
        RowRing s = ring("smith 1 1;pair 0 12;saying 5;pair 50 12;saying 1;saying 0");
        int[][] more = {{12, 4, 0}, {13, 5, 0}, {14, 6, 0}, {15, 3, 0}, {16, 4, 0}, {17, -2, -2}};
        for (int[] w : more) {
            due("bring(0, " + w[0] + ", 0)", s.bring(0, w[0], 0), w[1]);
            due("bring(0, " + w[0] + ", 1)", s.bring(0, w[0], 1), w[2]);
        }
        int[][] above = {{49, -2, -2}, {50, 1, 2}, {51, 1, 1}, {55, 1, 0}, {56, -2, -2}, {60, -2, -2}};
        for (int[] w : above) {
            due("bring(1, " + w[0] + ", 0)", s.bring(1, w[0], 0), w[1]);
            due("bring(1, " + w[0] + ", 1)", s.bring(1, w[0], 1), w[2]);
        }
        // 120 is reached from 98 by 22.
        RowRing top = ring("smith 1 1;pair 98 99;saying 2;minds 0 0 20");
        due("bring(0, 120, 0)", top.bring(0, 120, 0), 1);
        due("bring(0, 121, 0)", top.bring(0, 121, 0), NONE);
        due("bring(0, 0, 0)", top.bring(0, 0, 0), NONE);
        due("bring(0, 1, 0)", top.bring(0, 1, 0), -2);
        due("bring(0, lowest, 0)", top.bring(0, LOWEST, 0), NONE);
        due("bring(1, 1, 0)", top.bring(1, 1, 0), NONE);
        due("bring(-1, 1, 0)", top.bring(-1, 1, 0), NONE);
        due("bring(0, 1, 2)", top.bring(0, 1, 2), NONE);
        due("bring(0, 1, -1)", top.bring(0, 1, -1), NONE);
        top.say(0, 0);
        due("bring of one with a band", top.bring(0, 120, 0), NONE);
        // The first of several rows begins with the least saying that belongs to one of them.
        RowRing first = ring("smith 1 1;pair 0 10;saying 9;saying 4;saying 6");
        due("bring 10 by 4 and 6", first.bring(0, 10, 0), 2);
        due("bring 10: the first", first.bring(0, 10, 1), 1);
        due("bring 13 by 9 and 4", first.bring(0, 13, 1), 0);
    }

    private static void smoothing() {
        RowRing r = ring(THREE);
        due("smooth without a band", r.smooth(0), NONE);
        r.day();
        due("smooth(0)", r.smooth(0), 29);
        due("smooth(1)", r.smooth(1), 29);
        due("smooth(2)", r.smooth(2), NONE);
        due("smooth(3)", r.smooth(3), NONE);
        due("smooth(-1)", r.smooth(-1), NONE);
        days(r, 4);
        due("smooth(2)", r.smooth(2), 39);
        days(r, 4);
        due("smooth(0) on day 9", r.smooth(0), 29);
        r.day();
        due("smooth(0) on day 10", r.smooth(0), 29);
        days(r, 19);
        due("smooth(0) on day 29", r.smooth(0), 29);
        r.day();
        due("smooth(0) behind it", r.smooth(0), NONE);
        RowRing wide = ring("smith 99 1;pair 90 9;saying 9");
        wide.say(0, 0);
        due("99 wears", wide.smooth(0), 989);
        days(wide, 10);
        due("98 wears from day 10 on", wide.smooth(0), 989);
    }

    private static void striking() {
        RowRing r = ring(THREE);
        due("strike(1, 0)", r.strike(1, 0), 1);
        due("strike(1, 1)", r.strike(1, 1), 2);
        due("strike(2, 0)", r.strike(2, 0), 2);
        due("strike(2, 1)", r.strike(2, 1), 3);
        due("strike(30, 1)", r.strike(30, 1), 3);
        due("strike(0, 0)", r.strike(0, 0), NONE);
        due("strike(31, 0)", r.strike(31, 0), NONE);
        due("strike(1, 2)", r.strike(1, 2), NONE);
        due("strike(1, -1)", r.strike(1, -1), NONE);
        due("strike(lowest, 0)", r.strike(LOWEST, 0), NONE);
        RowRing calm = ring("smith 9 1;pair 0 99;saying 1");
        due("no row in any case", calm.strike(30, 0), 0);
        due("no row in any case", calm.strike(30, 1), 0);
        due("without sayings", ring("smith 9 1;pair 50 1").strike(5, 0), 0);
        // By the rule 2 is said first; struck, 1; both must go, 0 is too weak for a row.
        RowRing s = ring("smith 9 1;pair 0 5;saying 1;saying 6;saying 7", "say 1 + saying");
        due("strike by a rule", s.strike(20, 1), 6);
        due("strike by a rule", s.strike(20, 0), 2);
        // Of sets as small the least as bits: without either of these two nobody breaks.
        RowRing t = ring("smith 9 1;pair 0 9;saying 5;saying 5",
            "say 2 if said = 0;say 1 if said = 0");
        due("each alone does", t.strike(2, 0), 1);
        due("the least", t.strike(2, 1), 1);
        due("nothing is struck by asking", t.strike(1, 0), 0);
    }

    private static void stayingHome() {
        RowRing r = ring(THREE);
        due("home(1, 0)", r.home(1, 0), NONE);
        due("home(1, 1)", r.home(1, 1), 2);
        due("home(0, 0)", r.home(0, 0), -2);
        due("home(31, 0)", r.home(31, 0), -2);
        due("home(1, 2)", r.home(1, 2), -2);
        due("home(1, -1)", r.home(1, -1), -2);
        due("without pairs", ring("smith 9 1").home(30, 0), NONE);
        due("without pairs", ring("smith 9 1").home(30, 1), 0);
        // 0 breaks first and all are silent; at home it neither says nor hears, and 2 and 3 break.
        RowRing s = ring("smith 9 1;pair 0 4;pair 0 99;pair 0 9;pair 0 4;saying 9;near 0 1;near 2 3",
            "say 1 if bands = 0");
        due("home(1, 0)", s.home(1, 0), 0);
        due("home(1, 1)", s.home(1, 1), 2);
        s.say(0, 0);
        due("rows in these, not so far", s.home(1, 1), 0);
        // With either of two at home there are as many: the least.
        RowRing t = ring("smith 9 1;pair 0 9;pair 0 9;pair 0 9;pair 0 1;saying 9;near 2 3",
            "say 1 if bands = 0 and pair = 2;say 1 if bands = 0 and pair < 2 and rows = 0");
        due("home(1, 1)", t.home(1, 1), 1);
        due("home(1, 0)", t.home(1, 0), NONE);
    }

    private static void benching() {
        String five = "smith 1 1;pair 0 1;pair 0 1;pair 0 1;pair 0 1;pair 0 1";
        String ring = five + ";near 0 1;near 1 2;near 2 3;near 3 4;near 4 0";
        benchesAre(five, 1, 0, 0, 0, 0, 0);
        benchesAre(ring, 3, 0, 1, 0, 1, 2);
        benchesAre(five + ";near 4 0;near 3 1", 2, 0, 0, 0, 1, 1);
        benchesAre(ring + ";near 0 2;near 0 3;near 1 3;near 1 4;near 2 4", 5, 0, 1, 2, 3, 4);
        // By the least bench each time there would be three here; the first row of two is another.
        benchesAre("smith 1 1;pair 0 1;pair 0 1;pair 0 1;pair 0 1;near 0 2;near 2 3;near 3 1", 2, 0, 1, 1, 0, -2);
        benchesAre("smith 1 1", 0, -2, -2, -2, -2, -2);
        RowRing r = ring("smith 1 1;pair 0 1;pair 0 1;saying 9;near 0 1");
        r.say(0, 0);
        due("with a band they sit all the same", r.benches(NONE), 2);
        due("the bench beside", r.benches(1), 1);
        smith(r, "smith 1 1;pair 0 1;pair 0 1");
        due("of another smithy, the bench beside is gone", r.benches(1), 0);
        due("benches(5)", r.benches(5), -3);
        due("benches(-2)", r.benches(-2), -3);
        due("benches(lowest)", r.benches(LOWEST), -3);
        due("benches(highest)", r.benches(HIGHEST), -3);
        due("benches without a smithy", new RowRing().benches(0), -3);
    }

    private static void benchesAre(String smithy, int many, int... row) {
        RowRing r = ring(smithy);
        due("benches(NONE) of " + smithy, r.benches(NONE), many);
        for (int p = 0; p < row.length; p++) {
            due("benches(" + p + ") of " + smithy, r.benches(p), row[p]);
        }
    }

    private static void partingGold() {
        RowRing r = ring(THREE);
        due("nobody has a band", r.gold(100, 0), 0);
        r.day();
        // Bands of 12 and 11: of 10, 5 and 5 of 23, 4 and 18 of 23.
        due("gold(10, 0)", r.gold(10, 0), 5);
        due("gold(10, 1)", r.gold(10, 1), 5);
        due("gold(10, 2)", r.gold(10, 2), 0);
        due("gold(1, 0)", r.gold(1, 0), 1);
        due("gold(1, 1)", r.gold(1, 1), 0);
        due("gold(23, 0)", r.gold(23, 0), 12);
        due("gold(0, 0)", r.gold(0, 0), 0);
        due("gold(9999, 0)", r.gold(9999, 0), 5217);
        due("gold(9999, 1)", r.gold(9999, 1), 4782);
        due("gold(10000, 0)", r.gold(10000, 0), NONE);
        due("gold(-1, 0)", r.gold(-1, 0), NONE);
        due("gold(1, 3)", r.gold(1, 3), NONE);
        due("gold(1, -1)", r.gold(1, -1), NONE);
        RowRing s = ring("smith 4 1;pair 9 1;pair 9 1;pair 9 1;pair 0 99;saying 0");
        s.say(0, 0);
        s.say(1, 0);
        s.say(2, 0);
        // Of three alike the least first: 4, 4, 3.
        due("gold(11, 0)", s.gold(11, 0), 4);
        due("gold(11, 1)", s.gold(11, 1), 4);
        due("gold(11, 2)", s.gold(11, 2), 3);
        due("gold(11, 3)", s.gold(11, 3), 0);
        RowRing thin = ring("smith 1 1;pair 9 1;saying 0");
        thin.say(0, 0);
        due("all to a band of 1", thin.gold(7, 0), 7);
    }

    private static void hearing() {
        RowRing r = ring("smith 9 1;pair 0 5;pair 0 2;pair 0 2;pair 0 2;saying 5;saying 1;near 0 1;near 0 2");
        due("heard(0, 0, 0)", r.heard(0, 0, 0), 3);
        due("heard(0, 0, 1)", r.heard(0, 0, 1), 0);
        due("heard(0, 1, 0)", r.heard(0, 1, 0), 0);
        due("heard(0, 1, 1)", r.heard(0, 1, 1), -2);
        due("heard(3, 0, 1)", r.heard(3, 0, 1), 3);
        due("heard(0, 2, 0)", r.heard(0, 2, 0), NONE);
        due("heard(0, -1, 0)", r.heard(0, -1, 0), NONE);
        due("heard(4, 0, 0)", r.heard(4, 0, 0), NONE);
        due("heard(-1, 0, 0)", r.heard(-1, 0, 0), NONE);
        due("heard(0, 0, 2)", r.heard(0, 0, 2), NONE);
        due("heard(0, 0, -1)", r.heard(0, 0, -1), NONE);
        r.say(1, 0);
        due("rows with one near that has a band", r.heard(0, 0, 0), 2);
        due("heard of one with a band", r.heard(1, 0, 0), NONE);
        RowRing s = ring("smith 1 1;pair 0 99;pair 0 2;pair 3 2;pair 3 2;saying 5;near 0 1;near 0 2;near 0 3");
        due("of several the least", s.heard(0, 0, 1), 2);
        due("rows", s.heard(0, 0, 0), 3);
    }

    private static void gaming() {
        RowRing r = ring(THREE);
        int[] zero = {9, 4, 10, 5};
        int[] one = {8, 3, 11, 11};
        for (int n = 1; n <= 4; n++) {
            due("game(0, " + n + ", 0)", r.game(0, n, 0), zero[n - 1]);
            due("game(0, " + n + ", 1)", r.game(0, n, 1), 1);
            due("game(1, " + n + ", 0)", r.game(1, n, 0), one[n - 1]);
            due("game(1, " + n + ", 1)", r.game(1, n, 1), 1);
        }
        RowRing s = ring("smith 99 1;pair 0 10;saying 9;saying 9;minds 0 1 1;pair 2 90;pair 30 10");
        due("at once", s.game(0, 1, 0), 10);
        due("at once", s.game(0, 1, 1), 1);
        due("over behind the first turn", s.game(0, 2, 0), 10);
        due("over behind the first turn", s.game(0, 2, 1), 1);
        due("a little less first", s.game(0, 3, 0), 14);
        due("a little less first", s.game(0, 3, 1), 0);
        due("above breaks it is over behind the first turn", s.game(2, 4, 0), 39);
        due("soothed by 5", s.game(1, 2, 0), 6);
        RowRing d = ring("smith 9 1;pair 0 9;saying 2;pair 0 9;minds 1 0 1");
        due("the door", d.game(0, 1, 1), 1);
        due("the door", d.game(0, 1, 0), 3);
        due("soothed as far as they have it", d.game(0, 2, 0), 0);
        due("a saying as good as the door", d.game(1, 1, 1), 0);
        due("no sayings: the door", ring("smith 9 1;pair 0 9").game(0, 3, 1), 0);
        due("no sayings: the door", ring("smith 9 1;pair 0 9").game(0, 3, 0), 3);
        due("game(0, 0, 0)", r.game(0, 0, 0), NONE);
        due("game(0, 5, 0)", r.game(0, 5, 0), NONE);
        due("game(3, 1, 0)", r.game(3, 1, 0), NONE);
        due("game(-1, 1, 0)", r.game(-1, 1, 0), NONE);
        due("game(0, 1, 2)", r.game(0, 1, 2), NONE);
        due("game(0, 1, -1)", r.game(0, 1, -1), NONE);
        r.day();
        due("game of one with a band", r.game(0, 1, 0), NONE);
    }

    private static void sparking() {
        RowRing r = ring(THREE);
        due("spark(0)", r.spark(0), 2);
        due("spark(1)", r.spark(1), 2);
        due("spark(2)", r.spark(2), 4);
        due("spark(3)", r.spark(3), NONE);
        due("spark(-1)", r.spark(-1), NONE);
        r.day();
        due("spark of one with a band", r.spark(0), NONE);
        due("above breaks one is needed", ring("smith 9 1;pair 9 3;saying 4").spark(0), 1);
        due("at breaks one is needed", ring("smith 9 1;pair 3 3;saying 4").spark(0), 1);
        due("at breaks one that does not hurt will do", ring("smith 9 1;pair 3 3;saying 0").spark(0), 1);
        due("above breaks one that does not hurt will do", ring("smith 9 1;pair 9 3;saying 0").spark(0), 1);
        due("above breaks, but no sayings", ring("smith 9 1;pair 9 3").spark(0), -2);
        due("nothing hurts", ring("smith 9 1;pair 2 3;saying 0").spark(0), -2);
        due("just enough", ring("smith 9 1;pair 1 9;saying 4").spark(0), 2);
        due("99 by 1", ring("smith 9 1;pair 0 99;saying 1").spark(0), 99);
    }

    private static void calming() {
        RowRing r = ring(THREE);
        due("calm(1, 0)", r.calm(1, 0), 0);
        due("calm(1, 1)", r.calm(1, 1), 1);
        due("calm(0, 0)", r.calm(0, 0), -2);
        due("calm(31, 0)", r.calm(31, 0), -2);
        due("calm(1, 2)", r.calm(1, 2), -2);
        due("calm(1, -1)", r.calm(1, -1), -2);
        RowRing quiet = ring("smith 9 1;pair 9 99");
        RowRing just = ring("smith 9 1;pair 4 5;saying 4");
        due("0, not 1", just.calm(1, 1), 0);
        due("none is as good", quiet.calm(30, 0), NONE);
        due("none is as good", quiet.calm(30, 1), 0);
        RowRing two = ring("smith 9 1;pair 0 99;pair 9 10;pair 9 10;saying 1");
        due("of two the least", two.calm(1, 0), 1);
        due("of two the least", two.calm(1, 1), 1);
        days(two, 1);
        due("rows in these, not so far", two.calm(1, 1), 0);
    }

    private static void largestRows() {
        RowRing r = ring(THREE);
        int[][] want = {{1, 0, 12, 0}, {4, 0, 12, 0}, {5, 2, 33, 4}, {60, 2, 33, 4}};
        for (int[] w : want) {
            for (int what = 0; what < 3; what++) {
                due("largest(" + w[0] + ", " + what + ")", r.largest(w[0], what), w[what + 1]);
            }
        }
        due("largest(0, 0)", r.largest(0, 0), NONE);
        due("largest(61, 0)", r.largest(61, 0), NONE);
        due("largest(1, 3)", r.largest(1, 3), NONE);
        due("largest(1, -1)", r.largest(1, -1), NONE);
        r.day();
        for (int what = 0; what < 3; what++) {
            due("there is none", r.largest(3, what), -2);
        }
        due("the day counts from the begin", r.largest(4, 2), 4);
        // 1 and 2 break with 5 on day 0; on day 9 the band of 1 is smooth, and on day 10 it breaks again.
        RowRing s = ring("smith 1 1;pair 0 99;pair 0 5;pair 0 5;saying 5", "say 1 if pair > 0");
        due("who", s.largest(20, 0), 1);
        due("size", s.largest(20, 1), 5);
        due("the first day", s.largest(20, 2), 0);
        RowRing t = ring("smith 1 1;pair 0 5;pair 0 5;saying 5;saying 6", "say 2 if saying = 1 and pair = 1;say 1");
        due("the larger", t.largest(1, 0), 1);
        // The band is smooth at once, the row was as large.
        RowRing u = ring("smith 1 9;pair 0 1;saying 5", "say 1 if day = 9");
        due("size", u.largest(10, 1), 5);
        due("day", u.largest(10, 2), 9);
    }

    // ---- 27 to 31 ----

    private static void noting() {
        RowRing r = ring(THREE);
        due("note(-2, 0, 0)", r.note(-2, 0, 0), -2);
        due("note(61, 0, 0)", r.note(61, 0, 0), -2);
        due("note(0, 3, 0)", r.note(0, 3, 0), -2);
        due("note(0, -1, 0)", r.note(0, -1, 0), -2);
        due("note(0, 0, -1)", r.note(0, 0, -1), -2);
        due("note(0, 0, 100)", r.note(0, 0, 100), -2);
        due("note(lowest ..)", r.note(LOWEST, HIGHEST, LOWEST), -2);
        due("notes", r.count(10), 0);
        due("note(60, 2, 99)", r.note(60, 2, 99), 1);
        due("note(0, 0, 0)", r.note(0, 0, 0), 2);
        for (int i = 3; i <= 10; i++) {
            due("note " + i, r.note(0, 0, 0), i);
        }
        due("note 11", r.note(0, 0, 0), -2);
        due("notes", r.count(10), 10);
        due("note of none", r.note(NONE, 99, -99), 0);
        due("notes", r.count(10), 0);
        due("note", r.note(1, 0, 12), 1);
        smith(r, THREE);
        due("a new smithy has no notes", r.count(10), 0);
    }

    private static void ruling() {
        RowRing r = ring(THREE, GENTLE, "say 0");
        due("without notes all are so", r.ruled(0), 3);
        due("the first is none", r.ruled(1), NONE);
        // Pair 0 has 12, 0, 0 behind day 0 by none and the rules, and 12, 15, 0 behind day 1; pair 1 has
        // 11, 0, 0 and 11, 15, 0.
        r.note(0, 0, 12);
        due("none alone", r.ruled(0), 1);
        due("none alone", r.ruled(1), NONE);
        r.note(NONE, 0, 0);
        r.note(0, 1, 0);
        due("both rules", r.ruled(0), 2);
        due("the first", r.ruled(1), 0);
        r.note(1, 1, 15);
        due("rule 0", r.ruled(0), 1);
        due("rule 0", r.ruled(1), 0);
        r.note(60, 2, 1);
        due("none such", r.ruled(0), 0);
        due("none such", r.ruled(1), -2);
        due("ruled(2)", r.ruled(2), -3);
        due("ruled(-1)", r.ruled(-1), -3);
        r.note(NONE, 0, 0);
        r.note(0, 0, 1);
        due("nobody has a band so wide behind day 0", r.ruled(0), 0);
        // It is asked from the begin on, not from now on, and whichever rule is in force.
        r.note(NONE, 0, 0);
        r.say(1, 1);
        r.say(1, 1);
        days(r, 12);
        r.note(0, 0, 12);
        due("none, from the begin on", r.ruled(1), NONE);
        due("none, from the begin on", r.ruled(0), 1);
        RowRing s = ring(THREE);
        due("no rules: none", s.ruled(0), 1);
        s.note(60, 0, 98);
        due("no rules: none is not so", s.ruled(1), -2);
        rulingByDays();
    }

    private static void rulingByDays() {
        RowRing first = ring("smith 10 1;pair 9 10;saying 5");
        first.note(0, 0, 0);
        due("day 0 has gone by", first.ruled(0), 0);
        first.note(NONE, 0, 0);
        first.note(0, 0, 10);
        first.note(8, 0, 10);
        first.note(9, 0, 9);
        due("behind day 9 the band has worn", first.ruled(0), 1);
        first.note(9, 0, 10);
        due("behind day 9 the band has worn", first.ruled(0), 0);
        RowRing last = ring("smith 9 1;pair 0 5;saying 5", "say 1 if day = 60");
        last.note(59, 0, 0);
        last.note(60, 0, 5);
        due("behind day 60", last.ruled(1), 0);
        RowRing worn = ring("smith 9 1;pair 0 5;saying 5", "say 1 if day = 59");
        worn.note(58, 0, 0);
        worn.note(59, 0, 4);
        due("made on day 59, worn behind it", worn.ruled(1), 0);
    }

    private static void looking() {
        RowRing r = ring(THREE, GENTLE);
        // Behind day 0: 12, 11, 0 by none and 0, 0, 0 by the rule; behind day 1: 12, 11, 0 and 15, 15, 0.
        due("look(0, 0)", r.look(0, 0), 0);
        due("look(0, 1)", r.look(0, 1), 1);
        due("look(1, 0)", r.look(1, 0), 0);
        due("look(1, 1)", r.look(1, 1), 1);
        due("look(60, 1)", r.look(60, 1) > 0 ? 1 : 0, 1);
        due("look(61, 0)", r.look(61, 0), NONE);
        due("look(-1, 0)", r.look(-1, 0), NONE);
        due("look(0, 2)", r.look(0, 2), NONE);
        due("look(0, -1)", r.look(0, -1), NONE);
        RowRing s = ring("smith 9 1;pair 0 99;pair 0 5;saying 5", "say 0", "say 1", "say 2 if day > 0");
        // Pair 1 has 5, 0, 5, 0 behind day 0 by none and the rules 0 to 2, and 5, 0, 5, 5 behind day 1.
        due("look(0, 0)", s.look(0, 0), 1);
        due("look(0, 1)", s.look(0, 1), 2);
        due("look(1, 1)", s.look(1, 1), 3);
        s.note(0, 1, 0);
        due("by what fits the notes: rules 0 and 2", s.look(1, 1), 1);
        due("behind the day of the note", s.look(0, 1), 2);
        s.note(2, 1, 5);
        due("behind a day ahead of the last note", s.look(0, 1), 1);
        s.note(NONE, 0, 0);
        s.note(0, 1, 0);
        days(s, 3);
        due("from the begin on", s.look(1, 1), 1);
        s.note(0, 1, 5);
        due("no rule is so", s.look(1, 0), -2);
        due("no rule is so", s.look(1, 1), -2);
        due("no pairs", ring("smith 9 1").look(2, 0), -2);
        due("no pairs", ring("smith 9 1").look(2, 1), -2);
        RowRing last = ring("smith 9 1;pair 0 5;saying 5", "say 0", "say 1 if day = 60");
        // By none a band of 5 is made on days 0 and 50, so it is 4 wide behind days 59 and 60.
        due("look(59, 1)", last.look(59, 1), 2);
        due("look(60, 1)", last.look(60, 1), 1);
        lookingAmongAll();
    }

    private static void lookingAmongAll() {
        RowRing six = ring("smith 99 1;pair 0 4;saying 4;saying 5;saying 6;saying 7;saying 8;saying 9",
            "say 1", "say 1 if saying = 1", "say 1 if saying = 2", "say 1 if saying = 3", "say 1 if saying = 4",
            "say 1 if saying = 5");
        // By none 9; by the rules 4, 5, 6, 7, 8, 9.
        due("none and six rules", six.look(0, 1), 2);
        due("none and six rules", six.ruled(0), 7);
        six.note(0, 0, 8);
        due("one alone", six.look(0, 1), 1);
        due("one alone", six.look(0, 0), 0);
        due("one alone", six.ruled(1), 4);
    }

    private static void seeding() {
        RowRing r = new RowRing();
        due("seed(5)", r.seed(5), 0);
        due("seed(highest)", r.seed(HIGHEST), 5);
        due("seed(-1)", r.seed(-1), NONE);
        due("seed(lowest)", r.seed(LOWEST), NONE);
        due("x", r.count(12), HIGHEST);
        due("seed(0)", r.seed(0), HIGHEST);
    }

    private static void drawnDoors() {
        // Draws from 0 on: 0, 68, 88, 17, 98, 27, then 45, 41, 22, 10, 61, 52.
        RowRing r = ring("smith 9 1;pair 0 4;saying 0");
        due("doors(1, 6, 27, 0)", r.doors(1, 6, 27, 0), 0);
        due("doors(1, 6, 28, 0)", r.doors(1, 6, 28, 0), 1);
        due("doors(1, 6, 28, 1)", r.doors(1, 6, 28, 1), 4);
        due("doors(2, 6, 30, 0)", r.doors(2, 6, 30, 0), 2);
        due("doors(2, 6, 30, 1)", r.doors(2, 6, 30, 1), 9);
        due("doors(1, 6, 0, 0)", r.doors(1, 6, 0, 0), 0);
        due("doors(1, 2, 100, 1)", r.doors(1, 2, 100, 1), 5);
        due("doors(10, 2, 100, 0)", r.doors(10, 2, 100, 0), 10);
        due("doors(10, 2, 100, 1)", r.doors(10, 2, 100, 1), 50);
        due("x as it was", r.count(12), 0);
        due("nothing stays", r.pair(0, 0), 0);
        r.seed(HIGHEST);
        RowRing s = ring("smith 9 1;pair 0 3;saying 0");
        s.seed(HIGHEST);
        // The first draw is 15929.
        due("doors(1, 1, 29, 0)", s.doors(1, 1, 29, 0), 0);
        due("doors(1, 1, 30, 0)", s.doors(1, 1, 30, 0), 1);
        due("doors(0, 1, 0, 0)", s.doors(0, 1, 0, 0), NONE);
        due("doors(11, 1, 0, 0)", s.doors(11, 1, 0, 0), NONE);
        due("doors(1, 0, 0, 0)", s.doors(1, 0, 0, 0), NONE);
        due("doors(1, 61, 0, 0)", s.doors(1, 61, 0, 0), NONE);
        due("doors(1, 1, -1, 0)", s.doors(1, 1, -1, 0), NONE);
        due("doors(1, 1, 101, 0)", s.doors(1, 1, 101, 0), NONE);
        due("doors(1, 1, 0, 2)", s.doors(1, 1, 0, 2), NONE);
        due("doors(1, 1, 0, -1)", s.doors(1, 1, 0, -1), NONE);
        due("doors without pairs", ring("smith 9 1").doors(10, 60, 100, 0), 0);
        RowRing t = ring(THREE);
        due("rows by days, too", t.doors(3, 5, 0, 0), 9);
        due("bands of all three times", t.doors(3, 5, 0, 1), 3 * (12 + 11 + 15));
        t.day();
        due("rows in these, not so far", t.doors(2, 4, 0, 0), 2);
        due("bands of before, too", t.doors(1, 1, 0, 1), 23);
        due("by the rule in force", ring(THREE, GENTLE).doors(1, 1, 0, 0), 0);
    }

    // ---- 32 to 34 ----

    private static void counting() {
        RowRing r = ring(THREE, "say 9", GENTLE);
        r.seed(12345);
        r.note(3, 0, 1);
        r.note(4, 0, 1);
        days(r, 2);
        r.soothe(2, 1);
        r.feed(1, 2, 3, 4, 5);
        int[] want = {15, 4, 3, 2, 2, 1, 2, 3, 2, 30, 2, 3, 12345, 20};
        for (int what = 0; what < want.length; what++) {
            due("count(" + what + ")", r.count(what), want[what]);
        }
        due("count(14)", r.count(14), NONE);
        due("count(-1)", r.count(-1), NONE);
        due("count(lowest)", r.count(LOWEST), NONE);
        due("count(highest)", r.count(HIGHEST), NONE);
    }

    private static void imaging() {
        RowRing r = ring(THREE, GENTLE);
        r.seed(9);
        r.note(0, 0, 0);
        days(r, 2);
        due("image(4)", r.image(4), NONE);
        due("image(-1)", r.image(-1), NONE);
        due("back(-1)", r.back(-1), NONE);
        due("back(4)", r.back(4), NONE);
        due("back(2), never made", r.back(2), NONE);
        due("nothing happened", r.count(11), 2);
        due("image(3)", r.image(3), 2);
        due("acts can be undone behind it", r.count(11), 2);
        r.undo();
        r.undo();
        String begin = all(r);
        due("image(0)", r.image(0), 0);
        due("back(3)", r.back(3), 2);
        due("nothing can be undone", r.undo(), NONE);
        due("wide", r.pair(0, 2), 15);
        due("said", r.saying(0, 0, 1), 1);
        due("rows", r.count(8), 2);
        smith(r, "smith 5 5;pair 0 1;saying 1");
        rule(r, "say 3");
        r.force(1);
        r.seed(10);
        r.day();
        tell(r, "say");
        due("image(1)", r.image(1), 1);
        due("back(0)", r.back(0), 0);
        due("rules stay", r.count(4), 2);
        due("the tape stays", r.count(13), 3);
        due("in force as it was", r.count(5), 0);
        due("x as it was", r.count(12), 9);
        due("notes as they were", r.count(10), 1);
        due("pairs as they were", r.count(2), 3);
        due("a note as it was", r.ruled(0), 2);
        due("hurt as it was", r.saying(1, 1, 0), 8);
        due("near as it was", r.pair(0, 4), 2);
        due("temper as it was", r.pair(2, 0), 7);
        due("images stay", r.back(1), 1);
        due("the other smithy", r.count(0), 5);
        due("its rule", r.count(5), 1);
        due("its x", r.count(12), 10);
        due("back(0)", r.back(0), 0);
        r.end(0);
        String again = all(r);
        same("back at the begin but for the rules", again.replaceAll("^15 4 3 2 2", "15 4 3 2 1")
            .replaceAll(" \\d+ -?\\d+$", ""), begin.replaceAll(" \\d+ -?\\d+$", ""));
        // An image is made anew in its place; what goes on behind it does not change it.
        r.day();
        due("image(0)", r.image(0), 1);
        r.day();
        r.note(NONE, 0, 0);
        due("back(0)", r.back(0), 1);
        due("notes", r.count(10), 1);
        RowRing noted = ring(THREE, GENTLE);
        noted.note(1, 1, 11);
        noted.image(2);
        noted.note(NONE, 0, 0);
        noted.note(2, 0, 15);
        due("rule 0", noted.ruled(1), 0);
        noted.back(2);
        due("the note as it was", noted.ruled(1), NONE);
        due("the note as it was", noted.ruled(0), 1);
        RowRing empty = new RowRing();
        due("an image of nothing", empty.image(2), 0);
        smith(empty, THREE);
        empty.day();
        due("back to nothing", empty.back(2), 0);
        due("no smithy", empty.day(), NONE);
        due("no pairs", empty.count(2), 0);
        due("no smithy", empty.benches(NONE), -3);
    }

    private static void askingChangesNothing() {
        RowRing r = ring(THREE, "say 1 if said < 3", GENTLE);
        r.seed(3);
        r.say(2, 1);
        r.say(1, 1);
        r.say(1, 0);
        String before = all(r);
        for (int what = -1; what < 4; what++) {
            for (int n = 0; n < 70; n += 23) {
                r.ahead(0, n, what);
                r.strike(n, what);
                r.home(n, what);
                r.calm(n, what);
                r.largest(n, what);
                r.look(n, what);
                r.doors(3, n, 50, what);
                r.gold(n, what);
            }
            for (int p = 0; p < 3; p++) {
                r.quarrel(p, what);
                r.bring(p, 13, what);
                r.smooth(p);
                r.heard(p, 0, what);
                r.game(p, 4, what);
                r.spark(p);
            }
            r.benches(what);
            r.ruled(what);
        }
        same("behind what was asked", all(r), before);
        int rows = r.ahead(0, 1, 2);
        r.home(9, 0);
        r.strike(9, 0);
        r.day();
        due("a day behind what was asked", r.count(8), rows);
    }
}
