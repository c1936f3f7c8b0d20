/** One method for each promise of the document: ordinary calls, the edges it names, wrong calls. */
public final class PromiseTest {
    private static final int NONE = LaughDrive.NONE, UNKNOWN = LaughDrive.UNKNOWN, OUTSIDE = LaughDrive.OUTSIDE,
        STATE = LaughDrive.STATE, FULL = LaughDrive.FULL;
    private static final Sheet S = new Sheet();
    /** Four PEGS, three COVERTS, one LAUGH of each KIND: l, t, g, c, k. */
    private static final String ALL_KINDS = "9876;120;l04,t05,g01,c29,k10";

    private static void due(String call, long got, long want) {
        S.due(call, got, want);
    }

    private static LaughDrive on(String text) {
        return Sheet.on(text);
    }

    private static void promise1NewObject() {
        LaughDrive x = new LaughDrive();
        for (int what = 0; what <= 12; what++) {
            due("1: count(" + what + ")", x.count(what), 0);
        }
        due("1: peg", x.peg(0, 0), UNKNOWN);
        due("1: covert", x.covert(0, 0), UNKNOWN);
        due("1: laugh", x.laugh(0, 0), UNKNOWN);
        due("1: drive", x.drive(0, 0), UNKNOWN);
        due("1: fault", x.fault(), 0);
        due("1: blank", x.blank(), 0);
        due("1: forget", x.forget(), 0);
        due("1: NONE", NONE, -1);
        due("1: UNKNOWN", UNKNOWN, -101);
        due("1: OUTSIDE", OUTSIDE, -102);
        due("1: STATE", STATE, -103);
        due("1: FULL", FULL, -104);
    }

    private static void promise2Letter() {
        LaughDrive x = new LaughDrive();
        due("2: letter(31)", x.letter(31), OUTSIDE);
        due("2: letter(127)", x.letter(127), OUTSIDE);
        due("2: letter(32)", x.letter(32), 1);
        due("2: letter(126)", x.letter(126), 2);
        for (int n = 3; n <= 40; n++) {
            due("2: letter " + n, x.letter(65), n);
        }
        due("2: letter 41", x.letter(65), FULL);
        due("2: letter 41, not told as it is", x.letter(-1), OUTSIDE);
        due("2: still 40", x.count(10), 40);
    }

    private static void promise3Blank() {
        LaughDrive x = Sheet.write(new LaughDrive(), "12;");
        due("3: blank", x.blank(), 3);
        due("3: blank again", x.blank(), 0);
        due("3: first letter again", x.letter('1'), 1);
        LaughDrive full = Sheet.write(new LaughDrive(), "x".repeat(40));
        due("3: blank of 40", full.blank(), 40);
        due("3: room again", full.letter('x'), 1);
    }

    private static void fault(String text, int want) {
        LaughDrive x = Sheet.write(new LaughDrive(), text);
        due("4: fault of " + text, x.fault(), want);
        due("4: it stays", x.count(10), text.length());
    }

    private static void promise4Fault() {
        fault("", 0);
        fault("x", 0);
        fault(";", 0);
        fault("9;", 1);
        fault("99", 2);
        fault("99;", 3);
        fault("123456;", 7);
        fault("1234567", 6);
        fault("99;1;", 4);
        fault("99;;", 3);
        fault("99;12", 5);
        fault("99;1234;", 8);
        fault("99;12345", 7);
        fault("99;12;1", 6);
        for (char kind : "ltgck".toCharArray()) {
            fault("99;12;" + kind + "1", 8);
        }
        fault("99;12;L", 6);
        fault("99;12; ", 6);
        fault("99;12;l2", 7);
        fault("99;123;l2", 9);
        fault("99;123;l3", 8);
        fault("99;1234;l3", 10);
        fault("99;1234;l4", 9);
        fault("99;12;ll", 7);
        fault("99;12;l0l", 8);
        fault("99;12;l00;", 9);
        fault("99;12;l00l", 9);
        fault("99;12;l00,", 10);
        fault("99;12;l00,,", 10);
        fault("99;12;l00,t11", 13);
        fault("99;12;l00,t11,g02,c13,k04,l19", 29);
        fault("99;12;l00,t11,g02,c13,k04,l19,", 29);
        fault("99;12;l00,t11x99;", 13);
        fault("/9", 0);
        fault(":9", 0);
    }

    private static void noMoor(String text) {
        LaughDrive x = Sheet.write(new LaughDrive(), text);
        due("5: moor of " + text, x.moor(), STATE);
        due("5: letters stay", x.count(10), text.length());
        due("5: none read", x.count(11), 0);
    }

    private static void promise5Moor() {
        noMoor("");
        noMoor("99");
        noMoor("99;12;");
        noMoor("99;12;l00");
        noMoor("99;12;l00,");
        noMoor("99;12;l00,t1");
        noMoor("99;12;l00,t21");
        noMoor("99;12;l00,t11,");
        noMoor("99;12;l00,t11 ");
        noMoor(" 99;12;l00,t11");
        due("5: least", Sheet.write(new LaughDrive(), "99;12;l00,t11").moor(), 2);
        due("5: most", Sheet.write(new LaughDrive(), "999999;1234;l00,t11,g22,c33,k04,l19").moor(), 6);

        LaughDrive x = on("99;00;l05,l06,l01");
        due("5: page is empty then", x.count(10), 0);
        x.drive(0, 0);
        x.see(0, 0, 0);
        x.stands(0, 0, 0);
        x.image();
        Sheet.write(x, "99;00;l05,l06");
        due("5: another one", x.moor(), 2);
        due("5: bags are gone", x.peg(0, 1), 0);
        due("5: sport is gone", x.count(5), 0);
        due("5: drives are gone", x.count(6), 0);
        due("5: seen is gone", x.count(9), 0);
        due("5: laughs are where they are told", x.covert(0, 1), 3);
        due("5: the image is gone", x.restore(), STATE);
        due("5: read goes on", x.count(11), 2);
        due("5: stands go on", x.count(12), 1);
        x.drive(0, 0);
        Sheet.write(x, "99;00;l05");
        due("5: refused", x.moor(), STATE);
        due("5: the old one stays", x.count(6), 1);
    }

    private static void promise6Peg() {
        LaughDrive x = on("907;00;l05,l13");
        due("6: reach 0", x.peg(0, 0), 9);
        due("6: reach 1", x.peg(1, 0), 0);
        due("6: reach 2", x.peg(2, 0), 7);
        due("6: bag", x.peg(0, 1), 0);
        x.drive(0, 0);
        due("6: bag then", x.peg(0, 1), 1);
        x.put(0, 0);
        x.drive(0, 0);
        due("6: bag of two", x.peg(0, 1), 2);
        due("6: other bag", x.peg(2, 1), 0);
        due("6: peg 3", x.peg(3, 0), UNKNOWN);
        due("6: peg -1", x.peg(-1, 0), UNKNOWN);
        due("6: what 2", x.peg(0, 2), OUTSIDE);
        due("6: what -1", x.peg(0, -1), OUTSIDE);
        due("6: both wrong", x.peg(3, 2), UNKNOWN);
    }

    private static void promise7Covert() {
        LaughDrive x = on("99;307;l05,l13,l02,l29");
        due("7: feed 0", x.covert(0, 0), 3);
        due("7: feed 1", x.covert(1, 0), 0);
        due("7: feed 2", x.covert(2, 0), 7);
        due("7: laughs 0", x.covert(0, 1), 5);
        due("7: laughs 1", x.covert(1, 1), 2);
        due("7: laughs 2", x.covert(2, 1), 8);
        x.put(0, 2);
        due("7: laughs 2 then", x.covert(2, 1), 9);
        due("7: covert 3", x.covert(3, 0), UNKNOWN);
        due("7: covert -1", x.covert(-1, 1), UNKNOWN);
        due("7: what 2", x.covert(0, 2), OUTSIDE);
        due("7: what -1", x.covert(0, -1), OUTSIDE);
        due("7: both wrong", x.covert(3, 2), UNKNOWN);
    }

    private static void laughIs(LaughDrive x, int laugh, int... wants) {
        for (int what = 0; what < wants.length; what++) {
            due("8: laugh(" + laugh + ", " + what + ")", x.laugh(laugh, what), wants[what]);
        }
    }

    private static void promise8Laugh() {
        LaughDrive x = on(ALL_KINDS);
        // l04: 4 and 1; over peg 0 by 0, with no other there; by 1 over peg 1, where reach is 8, but g is as near as 5.
        laughIs(x, 0, 0, 0, 4, 5, 2, 7, 0);
        // t05: (5 and 1) halved is 3: the other one over its peg, l of 5, is had each time.
        laughIs(x, 1, 1, 0, 5, 3, 0, 7, 0);
        // g01: 1 and 1 and 3, over pegs 0, 1, 2.
        laughIs(x, 2, 2, 0, 1, 5, 3, 7, 0);
        // c29: it runs.
        laughIs(x, 3, 3, 2, 9, 0, 0, 7, 0);
        // k10: 0 and 2 and 6, over pegs 2 (7: too low), 3 (6: too low), none.
        laughIs(x, 4, 4, 1, 0, 8, 0, 7, 0);
        due("8: laugh 5", x.laugh(5, 0), UNKNOWN);
        due("8: laugh -1", x.laugh(-1, 0), UNKNOWN);
        due("8: what 7", x.laugh(0, 7), OUTSIDE);
        due("8: what -1", x.laugh(0, -1), OUTSIDE);
        due("8: both wrong", x.laugh(5, 7), UNKNOWN);
        x.drive(0, 1);
        laughIs(x, 2, 2, NONE, 1, NONE, 0, 7, 0);
        likelyHasRivals();
        seenTellsCoverts();
        hearTellsWind();
    }

    private static void likelyHasRivals() {
        LaughDrive x = on("55;00;l05,l05,l06");
        due("8: of like ones the least", x.laugh(0, 4), 2);
        due("8: and not the other", x.laugh(1, 4), 0);
        due("8: too high", x.laugh(2, 4), 0);
        x.arm(0, 6);
        due("8: now that one", x.laugh(2, 4), 1);
        due("8: and the first one elsewhere", x.laugh(0, 4), 1);
    }

    private static void seenTellsCoverts() {
        LaughDrive x = on("999;0000;l00,k10");
        due("8: nothing seen", x.laugh(0, 5), 15);
        x.see(0, 1, NONE);
        due("8: over none by 1", x.laugh(0, 5), 12);
        x.see(0, -1, 2);
        due("8: and over 2 by -1", x.laugh(0, 5), 8);
        due("8: of the other one nothing", x.laugh(1, 5), 15);
        x.put(0, 0);
        due("8: wherever it is", x.laugh(0, 5), 8);
        x.see(0, 0, 0);
        due("8: that can't be", x.laugh(0, 5), 0);
        due("8: then by none", x.laugh(0, 6), NONE);
        x.see(1, 0, 2);
        due("8: a cock 2 more", x.laugh(1, 5), 1);
    }

    private static void hearTellsWind() {
        // Coverts 0 to 3 fly over: by -1 none, 0, 1, none; by 0 0, 1, none, none; by 1 1, none, none, none.
        LaughDrive x = on("99;0000;l00,g00");
        due("8: of like ones the least wind", x.laugh(0, 6), 0);
        // A guffaw by -1: 0, 1, none, none; by 0 1, none, none, none.
        due("8: guffaw", x.laugh(1, 6), 0);
        // By -1 those of coverts 0 and 3 are alike (none); by 0 they are not.
        x.see(0, -1, NONE);
        due("8: what is left", x.laugh(0, 5), 9);
        due("8: by 0", x.laugh(0, 6), 1);
        LaughDrive y = on("999;0000;l00,l00");
        y.see(0, 1, NONE);
        due("8: 2 and 3 are left", y.laugh(0, 5), 12);
        due("8: by 0 over 2 and none, by -1 over 1 and 2", y.laugh(0, 6), 0);
        // A cock of two pegs: by -1 over 1 from covert 0, over none from the three others; by 0 and by 1 over none.
        due("8: many are left", on("99;0000;k00,l00").laugh(0, 6), 0);
        // By any wind no two are alike.
        due("8: all told apart", on("9999;000;l00,l00").laugh(0, 6), 0);
    }

    private static void promise9As() {
        LaughDrive x = on(ALL_KINDS);
        int[][] such = {
            {0, NONE, NONE, NONE, NONE}, {1, 1, NONE, NONE, NONE}, {2, NONE, 2, NONE, NONE}, {3, NONE, NONE, 3, NONE},
            {4, NONE, 4, NONE, 4}};
        for (int laugh = 0; laugh < 5; laugh++) {
            for (int kind = 0; kind < 5; kind++) {
                due("9: as(" + laugh + ", " + kind + ")", x.as(laugh, kind), such[laugh][kind]);
            }
        }
        due("9: kind 5", x.as(0, 5), OUTSIDE);
        due("9: kind -1", x.as(0, -1), OUTSIDE);
        due("9: laugh 5", x.as(5, 0), UNKNOWN);
        due("9: laugh -1", x.as(-1, 0), UNKNOWN);
        due("9: both wrong", x.as(5, 5), UNKNOWN);
    }

    private static void promise10Over() {
        LaughDrive x = on(ALL_KINDS);
        int[][] pegs = {{NONE, 0, 1}, {NONE, 0, 1}, {0, 1, 2}, {1, 2, 3}, {2, 3, NONE}};
        for (int laugh = 0; laugh < 5; laugh++) {
            for (int wind = -1; wind <= 1; wind++) {
                due("10: over(" + laugh + ", " + wind + ")", x.over(laugh, wind), pegs[laugh][wind + 1]);
            }
        }
        due("10: wind 2", x.over(0, 2), OUTSIDE);
        due("10: wind -2", x.over(0, -2), OUTSIDE);
        due("10: laugh 5", x.over(5, 0), UNKNOWN);
        due("10: laugh -1", x.over(-1, 0), UNKNOWN);
        due("10: both wrong", x.over(5, 2), UNKNOWN);
        x.drive(0, 1);
        due("10: it is in none", x.over(2, 0), NONE);
    }

    private static void promise11Drive() {
        LaughDrive x = on(ALL_KINDS);
        // By 1: l (5) and t (3) over peg 1, g (5) over peg 2.
        due("11: two are had", x.drive(0, 1), 2);
        due("11: l is in none", x.laugh(0, 1), NONE);
        due("11: g is in none", x.laugh(2, 1), NONE);
        due("11: t is in the next", x.laugh(1, 1), 1);
        due("11: k stays", x.laugh(4, 1), 1);
        due("11: bags", x.peg(1, 1) + 10 * x.peg(2, 1) + 100 * x.count(4), 211);
        due("11: sport", x.count(5), 10);
        due("11: drives", x.count(6), 1);
        // Covert 2 is the last one: c runs on to covert 0.
        due("11: a chuckle is not sporting", x.drive(2, 0), 0);
        due("11: behind the last the first", x.laugh(3, 1), 0);
        due("11: a drive all the same", x.count(6), 2);
        due("11: an empty covert", x.drive(2, 1), 0);
        due("11: three", x.count(6), 3);
        due("11: sport stays", x.count(5), 10);
        due("11: covert 3", x.drive(3, 0), UNKNOWN);
        due("11: covert -1", x.drive(-1, 0), UNKNOWN);
        due("11: wind 2", x.drive(0, 2), OUTSIDE);
        due("11: wind -2", x.drive(0, -2), OUTSIDE);
        due("11: both wrong", x.drive(3, 2), UNKNOWN);
        due("11: refused ones are none", x.count(6), 3);
        driveByHeight();
        driveTillFull();
    }

    private static void driveByHeight() {
        LaughDrive x = on("72;00;l08,l07,l07,l06,l13,l12");
        due("11: of those within reach one", x.drive(0, 0), 1);
        due("11: the least of the greatest", x.covert(1, 1), 1 + 4 + 8 + 16 + 32);
        due("11: its height is sport", x.count(5), 7);
        due("11: peg 1 reaches 2", x.drive(1, 0), 1);
        due("11: so it is the last one", x.covert(0, 1), 1 + 4 + 8 + 16);
        LaughDrive low = on("90;00;l00,t01,c09,g19");
        due("11: height 0 is not had", low.drive(0, 0), 0);
        due("11: nor is it by a reach of 0", low.drive(0, 1), 0);
        due("11: all are in the next", low.covert(1, 1), 15);
    }

    private static void driveTillFull() {
        LaughDrive x = on("99;00;c00,c00");
        for (int n = 0; n < 999; n++) {
            x.drive(0, 0);
        }
        due("11: 999 were", x.count(6), 999);
        due("11: full", x.drive(0, 0), FULL);
        due("11: full, but a wrong wind first", x.drive(0, 2), OUTSIDE);
        due("11: full, but a wrong covert first", x.drive(2, 0), UNKNOWN);
        due("11: 999 still", x.count(6), 999);
    }

    private static void promise12Put() {
        LaughDrive x = on("99;000;l05,l13");
        due("12: put", x.put(0, 2), 0);
        due("12: it is there", x.covert(2, 1), 1);
        due("12: no more here", x.covert(0, 1), 0);
        due("12: put where it is", x.put(0, 2), 2);
        due("12: the other one", x.laugh(1, 1), 1);
        x.drive(1, 0);
        due("12: out of none", x.put(1, 0), NONE);
        due("12: there again", x.covert(0, 1), 2);
        due("12: laugh 2", x.put(2, 0), UNKNOWN);
        due("12: laugh -1", x.put(-1, 0), UNKNOWN);
        due("12: covert 3", x.put(0, 3), UNKNOWN);
        due("12: covert -1", x.put(0, NONE), UNKNOWN);
        due("12: nothing is changed", x.laugh(0, 1), 2);
        due("12: no moor", new LaughDrive().put(0, 0), UNKNOWN);
    }

    private static void promise13Feed() {
        LaughDrive x = on("99;30;l05,l13");
        due("13: feed", x.feed(0, 9), 3);
        due("13: fed", x.covert(0, 0), 9);
        due("13: feed less", x.feed(0, 0), 9);
        due("13: the other one", x.covert(1, 0), 0);
        due("13: height", x.laugh(0, 3), 5);
        due("13: covert 2", x.feed(2, 0), UNKNOWN);
        due("13: covert -1", x.feed(-1, 0), UNKNOWN);
        due("13: feed 10", x.feed(0, 10), OUTSIDE);
        due("13: feed -1", x.feed(0, -1), OUTSIDE);
        due("13: both wrong", x.feed(2, 10), UNKNOWN);
        due("13: nothing is changed", x.count(7), 0);
    }

    private static void promise14Arm() {
        LaughDrive x = on("93;00;l05,l14");
        due("14: arm", x.arm(1, 0), 3);
        due("14: armed", x.peg(1, 0), 0);
        due("14: arm more", x.arm(1, 9), 0);
        due("14: the other one", x.peg(0, 0), 9);
        due("14: it is had then", x.drive(1, 0), 1);
        due("14: peg 2", x.arm(2, 0), UNKNOWN);
        due("14: peg -1", x.arm(-1, 0), UNKNOWN);
        due("14: reach 10", x.arm(0, 10), OUTSIDE);
        due("14: reach -1", x.arm(0, -1), OUTSIDE);
        due("14: both wrong", x.arm(2, 10), UNKNOWN);
        due("14: nothing is changed", x.count(8), 18);
    }

    private static void promise15Rear() {
        LaughDrive x = on("99;20;l05,t13");
        due("15: rear", x.rear(0, 9), 5);
        due("15: reared", x.laugh(0, 2), 9);
        due("15: height", x.laugh(0, 3), 11);
        due("15: rear less", x.rear(0, 0), 9);
        due("15: the other one", x.laugh(1, 2), 3);
        due("15: laugh 2", x.rear(2, 0), UNKNOWN);
        due("15: laugh -1", x.rear(-1, 0), UNKNOWN);
        due("15: high 10", x.rear(0, 10), OUTSIDE);
        due("15: high -1", x.rear(0, -1), OUTSIDE);
        due("15: both wrong", x.rear(2, 10), UNKNOWN);
        due("15: nothing is changed", x.laugh(0, 2), 0);
    }

    private static void standsAre(String text, int covert, int wind, int... wants) {
        LaughDrive x = on(text);
        due("16: how great on " + text, x.stands(covert, wind, 0), wants[0]);
        for (int peg = 0; peg < 6; peg++) {
            int want = peg + 1 < wants.length ? wants[peg + 1] : NONE;
            due("16: peg " + peg + " on " + text, x.stands(covert, wind, 10 + peg), want);
        }
        due("16: each is one", x.count(12), 7);
        due("16: reaches stay", x.peg(0, 0), text.charAt(0) - '0');
        due("16: no drive", x.count(6), 0);
    }

    private static void promise16Stands() {
        // l flies 9 over peg 0, g 5 over peg 1.
        standsAre("159;00;l09,g02", 0, 0, 14, 2, 1, 0);
        // The last peg, too, has one by the reach that it should have.
        standsAre("59;00;l09,g02", 0, 0, 14, 1, 0);
        // By -1 g flies over peg 0, l over none.
        standsAre("159;00;l09,g02", 0, -1, 5, 1, 0, 2);
        standsAre("159;00;l09,g02", 1, 0, 0, 0, 1, 2);
        // All alike: as they are.
        standsAre("555555;00;l05,g02", 0, 0, 10, 0, 1, 2, 3, 4, 5);
        // A low reach may have the lower one of two: 6 and 3 over peg 1, 4 over peg 2.
        standsAre("3640;00;l16,l13,g11", 1, 0, 10, 0, 1, 2, 3);
        // The same with peg 0 kept free for the least number that is as good.
        standsAre("0463;00;l16,l13,g11", 1, 0, 10, 0, 2, 1, 3);
        LaughDrive y = on("999999;00;k03,l14");
        y.stands(0, 0, 0);
        Sheet.write(y, "99;00;l05,l14").moor();
        due("16: nothing of a wider moor", y.stands(0, 0, 0), 5);
        LaughDrive x = on("99;00;l05,l14");
        due("16: covert 2", x.stands(2, 0, 0), UNKNOWN);
        due("16: covert -1", x.stands(-1, 0, 0), UNKNOWN);
        due("16: wind 2", x.stands(0, 2, 0), OUTSIDE);
        due("16: wind -2", x.stands(0, -2, 0), OUTSIDE);
        for (int what : new int[] {-1, 1, 9, 16}) {
            due("16: what " + what, x.stands(0, 0, what), OUTSIDE);
        }
        due("16: two wrong", x.stands(2, 2, 9), UNKNOWN);
        due("16: refused ones are none", x.count(12), 0);
        standsTwentyTimes(x);
    }

    private static void standsTwentyTimes(LaughDrive x) {
        x.image();
        for (int n = 0; n < 10; n++) {
            due("16: time " + n, x.stands(0, 0, 0), 5);
        }
        x.restore();
        for (int n = 10; n < 19; n++) {
            due("16: time " + n, x.stands(0, 0, 15), NONE);
        }
        Sheet.write(x, "99;00;l05,l14").moor();
        due("16: the last time", x.stands(1, 0, 0), 4);
        due("16: no more", x.stands(1, 0, 0), STATE);
        due("16: no more, but a wrong what first", x.stands(1, 0, 1), OUTSIDE);
        due("16: no more, but a wrong covert first", x.stands(2, 0, 0), UNKNOWN);
        due("16: 20", x.count(12), 20);
    }

    private static void orderIs(String text, int wind, int... wants) {
        LaughDrive x = on(text);
        due("17: how great on " + text, x.order(wind, 0), wants[0]);
        for (int turn = 0; turn < 4; turn++) {
            int want = turn + 1 < wants.length ? wants[turn + 1] : NONE;
            due("17: turn " + turn + " on " + text, x.order(wind, 10 + turn), want);
        }
        due("17: no drive", x.count(6), 0);
        due("17: laughs stay", x.laugh(0, 1), text.charAt(text.indexOf('l') + 1) - '0');
    }

    private static void promise17Order() {
        // Each covert has one over its own peg: as they are.
        orderIs("999;000;l01,l12,l23", 0, 6, 0, 1, 2);
        // The first by numbers, not the greatest last.
        orderIs("99;00;l05,l13", 0, 8, 0, 1);
        // Both in covert 0 over peg 0: one is had there, the other one in covert 1, behind it.
        orderIs("99;00;l05,l04", 0, 9, 0, 1);
        // Covert 1 is the last: what is left of it flies in covert 0.
        orderIs("99;00;l15,l14", 0, 9, 1, 0);
        // Only peg 3 reaches: covert 2 is to be driven ahead of 3, and the rest as they are.
        orderIs("0009;0000;l25,l24", 0, 5, 0, 1, 2, 3);
        // Only peg 0 reaches: covert 2, then 3, then 0.
        orderIs("9000;0000;l25,l24", 0, 5, 1, 2, 3, 0);
        // By 1 that of covert 1 flies over none, so it is left for covert 0, where it is the greatest.
        orderIs("99;00;l15,l04", 1, 5, 1, 0);
        orderIs("99;00;l15,l14", 1, 5, 1, 0);
        LaughDrive x = on("99;00;l05,l14");
        due("17: wind 2", x.order(2, 0), OUTSIDE);
        due("17: wind -2", x.order(-2, 0), OUTSIDE);
        for (int what : new int[] {-1, 1, 9, 14}) {
            due("17: what " + what, x.order(0, what), OUTSIDE);
            due("17: what " + what + ", no moor", new LaughDrive().order(0, what), OUTSIDE);
        }
        due("17: no moor", new LaughDrive().order(0, 0), STATE);
        due("17: no moor, wind 2", new LaughDrive().order(2, 10), OUTSIDE);
    }

    private static void gameIs(String text, int wind, int lead, int covert) {
        LaughDrive x = on(text);
        due("18: how much on " + text, x.game(wind, 0), lead);
        due("18: which on " + text, x.game(wind, 1), covert);
        due("18: no drive", x.count(6), 0);
    }

    private static void promise18Game() {
        gameIs("99;00;l03,l15", 0, 502, 1);
        gameIs("99;00;l05,l13", 0, 502, 0);
        // Alike: the least.
        gameIs("99;00;l04,l14", 0, 500, 0);
        // 9, 5 and 4: he has 9 and 4.
        gameIs("999;000;l04,l15,l29", 0, 508, 2);
        // By covert 0 he has 5, and 4 comes to covert 1, for the other one.
        gameIs("99;00;l05,l04", 0, 501, 0);
        // Peg 0 reaches nothing: by covert 0 he drives 5 on to the other one.
        gameIs("09;00;l05,c00", 0, 500, 1);
        // By covert 1 he drives 5 on; by 0 or by 2 nobody has it.
        gameIs("009;000;l15,c00", 0, 500, 0);
        // Four: who drives covert 2 gives 5 away; an even number of others is left, so nobody must.
        gameIs("0009;0000;l25,c20", 0, 500, 0);
        LaughDrive x = on("99;00;l05,l14");
        due("18: wind 2", x.game(2, 0), OUTSIDE);
        due("18: wind -2", x.game(-2, 0), OUTSIDE);
        due("18: what 2", x.game(0, 2), OUTSIDE);
        due("18: what -1", x.game(0, -1), OUTSIDE);
        due("18: no moor", new LaughDrive().game(0, 0), STATE);
        due("18: no moor, what 2", new LaughDrive().game(0, 2), OUTSIDE);
        due("18: no moor, wind 2", new LaughDrive().game(2, 0), OUTSIDE);
    }

    private static void promise19See() {
        LaughDrive x = on("99;00;l05,l14");
        due("19: first", x.see(0, -1, NONE), 1);
        due("19: second", x.see(1, 1, 1), 2);
        due("19: seen of the first one", x.laugh(0, 5), 1);
        due("19: seen of the other one", x.laugh(1, 5), 1);
        due("19: laugh 2", x.see(2, 0, 0), UNKNOWN);
        due("19: laugh -1", x.see(-1, 0, 0), UNKNOWN);
        due("19: peg 2", x.see(0, 0, 2), UNKNOWN);
        due("19: peg -2", x.see(0, 0, -2), UNKNOWN);
        due("19: wind 2", x.see(0, 2, 0), OUTSIDE);
        due("19: wind -2", x.see(0, -2, 0), OUTSIDE);
        due("19: peg 2 and wind 2", x.see(0, 2, 2), UNKNOWN);
        due("19: refused ones are none", x.count(9), 2);
        for (int n = 3; n <= 6; n++) {
            due("19: same again", x.see(0, -1, NONE), n);
        }
        due("19: full", x.see(0, 0, 0), FULL);
        due("19: full, but wind 2 first", x.see(0, 2, 0), OUTSIDE);
        due("19: full, but peg 2 first", x.see(0, 0, 2), UNKNOWN);
        due("19: six", x.count(9), 6);
        due("19: no moor", new LaughDrive().see(0, 0, NONE), UNKNOWN);
    }

    private static void promise20Forget() {
        LaughDrive x = on("99;00;l05,l14");
        due("20: nothing", x.forget(), 0);
        x.see(0, -1, NONE);
        x.see(0, 0, 1);
        due("20: two", x.forget(), 2);
        due("20: none are left", x.count(9), 0);
        due("20: all can be again", x.laugh(0, 5), 3);
        due("20: and it is seen anew", x.see(0, 0, 1), 1);
        due("20: as that alone", x.laugh(0, 5), 2);
        due("20: no moor", new LaughDrive().forget(), 0);
    }

    private static void promise21Seasons() {
        // SEED 0: 12345, a DRAW of 0 (covert 0); then 1406932606 (by 65536: 21468, of 3: 0, so wind -1);
        // then 654583775 (by 65536: 9988, of 4: 0, so one comes back).
        LaughDrive x = on("99;00;g02,l04");
        due("21: sport", x.seasons(1, 0, 0), 5);
        due("21: it came back", x.seasons(1, 0, 1), 2);
        due("21: the seed then", x.seasons(1, 0, 2), 654583775);
        due("21: sport once more", x.seasons(1, 0, 0), 5);
        LaughDrive other = on("99;00;l04,g02");
        due("21: the one that is in none came back", other.seasons(1, 0, 1), 2);
        due("21: as they would be", x.count(6) + x.count(5) + x.count(4), 0);
        due("21: laughs stay", x.covert(0, 1), 3);
        due("21: a great seed", x.seasons(1, Integer.MAX_VALUE, 2), 646343466);
        due("21: 60", x.seasons(60, 1, 2), seedAfter(180, 1));
        due("21: times 0", x.seasons(0, 1, 0), OUTSIDE);
        due("21: times 61", x.seasons(61, 1, 0), OUTSIDE);
        due("21: seed -1", x.seasons(1, -1, 0), OUTSIDE);
        due("21: what 3", x.seasons(1, 1, 3), OUTSIDE);
        due("21: what -1", x.seasons(1, 1, -1), OUTSIDE);
        due("21: no moor", new LaughDrive().seasons(1, 1, 0), STATE);
        due("21: no moor, times 0", new LaughDrive().seasons(0, 1, 0), OUTSIDE);
        due("21: no moor, seed -1", new LaughDrive().seasons(1, -1, 0), OUTSIDE);
        due("21: no moor, what 3", new LaughDrive().seasons(1, 1, 3), OUTSIDE);
        seasonsBringBackTheLeast();
        LaughDrive y = on("596;20;l03,l05,t19,g00,k10,c09");
        due("21: a long one", y.seasons(20, 77, 0), 32);
        due("21: a long one", y.seasons(20, 77, 1), 1);
        due("21: a long one", y.seasons(20, 77, 2), 387832273);
    }

    private static void seasonsBringBackTheLeast() {
        // Of this SEED the DRAWS are covert 0, wind -1, 0 (one comes back), covert 0, wind -1, and not 0.
        int seed = 99;
        // First both are had, 5 and 9; then that of 5, which came back.
        LaughDrive x = on("99;00;g02,k03");
        due("21: sport of two", x.seasons(2, seed, 0), 19);
        due("21: none is left", x.seasons(2, seed, 1), 0);
    }

    private static long seedAfter(int draws, long first) {
        long seed = first;
        for (int n = 0; n < draws; n++) {
            seed = (1103515245L * seed + 12345L) % (1L << 31);
        }
        return seed;
    }

    private static void promise22Image() {
        LaughDrive x = on("99;00;l05,l14");
        due("22: image", x.image(), 0);
        x.drive(0, 0);
        x.drive(0, 0);
        due("22: a later one", x.image(), 2);
        x.drive(1, 0);
        due("22: the latest is kept", x.restore(), 2);
        due("22: no moor", new LaughDrive().image(), STATE);
        due("22: no moor, then none is kept", new LaughDrive().restore(), STATE);
    }

    private static void promise23Restore() {
        LaughDrive x = on("98;12;l05,g14,l03");
        due("23: none was kept", x.restore(), STATE);
        x.drive(0, 0);
        x.see(0, 0, 0);
        x.see(2, 1, 1);
        long before = x.digest();
        x.image();
        x.drive(0, 1);
        x.drive(1, 0);
        x.put(0, 1);
        x.feed(0, 7);
        x.arm(1, 2);
        x.rear(2, 9);
        x.forget();
        x.see(1, -1, 1);
        S.holds("23: it is another one", x.digest() != before);
        due("23: restore", x.restore(), 1);
        due("23: all is as it was", x.digest(), before);
        x.arm(0, 0);
        x.restore();
        due("23: once more", x.digest(), before);
        x.letter('9');
        x.stands(0, 0, 0);
        x.restore();
        due("23: the page goes on", x.count(10), 1);
        due("23: stands go on", x.count(12), 1);
        Sheet.write(x, "8;12;l05,g14,l03");
        due("23: the same text", x.moor(), 3);
        due("23: but read since", x.restore(), STATE);
        x.image();
        Sheet.write(x, "98;");
        x.moor();
        due("23: none was read", x.restore(), 0);
    }

    private static void promise24Count() {
        LaughDrive x = on("987;1234;l05,l14,c00,t31,l39");
        int[] first = {3, 4, 5, 5, 0, 0, 0, 10, 24, 0, 0, 1, 0};
        for (int what = 0; what < first.length; what++) {
            due("24: count(" + what + ") first", x.count(what), first[what]);
        }
        x.drive(0, 0);
        x.drive(1, 1);
        x.arm(0, 1);
        x.feed(3, 9);
        x.see(0, 0, 0);
        x.letter('9');
        x.letter('9');
        x.stands(0, 0, 0);
        // l05 is had at 6 over peg 0, l14 at 6 over peg 2.
        int[] then = {3, 4, 5, 3, 2, 12, 2, 15, 16, 1, 2, 1, 1};
        for (int what = 0; what < then.length; what++) {
            due("24: count(" + what + ") then", x.count(what), then[what]);
        }
        x.blank();
        Sheet.write(x, "12;34;l00,l11").moor();
        due("24: bags of a narrower moor", x.count(4), 0);
        due("24: feed of a narrower moor", x.count(7), 7);
        due("24: reach of a narrower moor", x.count(8), 3);
        due("24: count(13)", x.count(13), OUTSIDE);
        due("24: count(-1)", x.count(-1), OUTSIDE);
    }

    private static long mix(long before, long... numbers) {
        long h = before;
        for (long number : numbers) {
            h = 31 * h + number;
        }
        return h;
    }

    private static void promise25Digest() {
        due("25: new", new LaughDrive().digest(), mix(1231, 0, 0, 0, 0, 0, 0, 0, 0, 0, 0, 0, 0, 0));
        LaughDrive page = Sheet.write(new LaughDrive(), "9~");
        due("25: a page", page.digest(), mix(1231, '9', '~', 0, 0, 0, 0, 0, 0, 0, 0, 0, 0, 2, 0, 0));
        LaughDrive x = on("92;01;l05,k10,t13");
        x.drive(0, 0);
        x.see(1, 1, NONE);
        x.stands(0, 0, 0);
        x.letter(';');
        long h = 1231;
        for (int peg = 0; peg < 2; peg++) {
            h = mix(h, x.peg(peg, 0), x.peg(peg, 1));
        }
        for (int covert = 0; covert < 2; covert++) {
            h = mix(h, x.covert(covert, 0), x.covert(covert, 1));
        }
        for (int laugh = 0; laugh < 3; laugh++) {
            for (int what = 0; what <= 6; what++) {
                h = mix(h, x.laugh(laugh, what));
            }
            h = mix(h, x.over(laugh, -1), x.over(laugh, 0), x.over(laugh, 1));
        }
        for (int wind = -1; wind <= 1; wind++) {
            h = mix(h, x.order(wind, 0), x.order(wind, 10), x.order(wind, 11), x.order(wind, 12), x.order(wind, 13));
            h = mix(h, x.game(wind, 0), x.game(wind, 1));
        }
        h = mix(h, ';');
        for (int what = 0; what <= 12; what++) {
            h = mix(h, x.count(what));
        }
        due("25: all", x.digest(), h);
        due("25: it changes nothing", x.digest(), h);
    }

    public static void main(String[] args) {
        promise1NewObject();
        promise2Letter();
        promise3Blank();
        promise4Fault();
        promise5Moor();
        promise6Peg();
        promise7Covert();
        promise8Laugh();
        promise9As();
        promise10Over();
        promise11Drive();
        promise12Put();
        promise13Feed();
        promise14Arm();
        promise15Rear();
        promise16Stands();
        promise17Order();
        promise18Game();
        promise19See();
        promise20Forget();
        promise21Seasons();
        promise22Image();
        promise23Restore();
        promise24Count();
        promise25Digest();
        S.close("PromiseTest");
    }
}
