import java.math.BigInteger;
import java.util.function.ToIntFunction;

/**
 * Promises 1 to 25 of the document: for each sentence that names a bound of an argument, an edge, or a refusal, a call
 * on each side of it, which of two refusals is told, and that a refused call changes nothing.
 */
public final class CallBoundsTest {
    private static final int NONE = LaughDrive.NONE, UNKNOWN = LaughDrive.UNKNOWN, OUTSIDE = LaughDrive.OUTSIDE,
        STATE = LaughDrive.STATE, FULL = LaughDrive.FULL;
    private static final int FAR = Integer.MAX_VALUE, DEEP = Integer.MIN_VALUE;
    private static final Sheet S = new Sheet();

    private interface Call {
        int on(LaughDrive x, int number);
    }

    private static void due(String call, long got, long want) {
        S.due(call, got, want);
    }

    private static LaughDrive on(String text) {
        return Sheet.on(text);
    }

    /** It is refused so, and the object goes on like its twin, on which nothing was called. */
    private static void refused(String told, Scene scene, int want, ToIntFunction<LaughDrive> call) {
        LaughDrive x = scene.made();
        due(told + " in " + scene, call.applyAsInt(x), want);
        S.holds(told + " in " + scene + " changes nothing", Scene.goesOn(x).equals(Scene.goesOn(scene.made())));
    }

    /** From least to most it is taken; all beyond is refused so, next to it and far off. */
    private static void bounds(String told, Scene scene, int least, int most, int refusal, Call call) {
        for (int n = least; n <= most; n++) {
            int got = call.on(scene.made(), n);
            S.holds(told + " of " + n + " in " + scene + " is taken, but answered " + got, got >= NONE);
        }
        for (int n : new int[] {least - 1, most + 1, DEEP, FAR, least - 256, most + 256, least + 65536}) {
            refused(told + " of " + n, scene, refusal, x -> call.on(x, n));
        }
    }

    private static void pegs(String told, Call call) {
        for (Scene scene : Scene.values()) { bounds(told, scene, 0, scene.pegs - 1, UNKNOWN, call); }
    }

    private static void coverts(String told, Call call) {
        for (Scene scene : Scene.values()) { bounds(told, scene, 0, scene.coverts - 1, UNKNOWN, call); }
    }

    private static void laughs(String told, Call call) {
        for (Scene scene : Scene.values()) { bounds(told, scene, 0, scene.laughs - 1, UNKNOWN, call); }
    }

    private static void noMoor(String told, int want, ToIntFunction<LaughDrive> call) {
        refused(told, Scene.NEW, want, call);
        refused(told, Scene.WORDS, want, call);
    }

    // ---- 1 to 5: the moor

    private static void promise1() {
        S.sentence("LaughDrive()`: No MOOR.");
        LaughDrive x = new LaughDrive();
        for (int what = 0; what <= 12; what++) { due("count(" + what + ")", x.count(what), 0); }
        due("fault", x.fault(), 0);
        due("blank", x.blank(), 0);
        due("forget", x.forget(), 0);
        due("as", x.as(0, 0), UNKNOWN);
        due("letter", x.letter('9'), 1);
        due("of another object nothing", new LaughDrive().count(10), 0);
    }

    private static void promise2() {
        S.sentence("A letter comes behind THE PAGE, told by its code: how many THE PAGE has.");
        LaughDrive x = new LaughDrive();
        due("first", x.letter('9'), 1);
        due("second", x.letter('0'), 2);
        due("third", x.letter(';'), 3);
        due("in that order", x.fault(), 3);
        S.sentence("OUTSIDE: code (32 to 126)");
        bounds("letter", Scene.NEW, 32, 126, OUTSIDE, LaughDrive::letter);
        bounds("letter", Scene.BUSY, 32, 126, OUTSIDE, LaughDrive::letter);
        S.sentence("FULL: above 40");
        LaughDrive y = new LaughDrive();
        for (int n = 1; n <= 40; n++) { due("letter " + n, y.letter(32), n); }
        due("letter 41", y.letter(32), FULL);
        due("letter 42", y.letter(126), FULL);
        due("letters", y.count(10), 40);
        refused("letter 41", Scene.FULL, FULL, z -> z.letter('9'));
        refused("letter 41, OUTSIDE first", Scene.FULL, OUTSIDE, z -> z.letter(31));
        refused("letter 41, OUTSIDE first", Scene.FULL, OUTSIDE, z -> z.letter(127));
        y.blank();
        due("room again", y.letter(32), 1);
    }

    private static void promise3() {
        S.sentence("THE PAGE is empty: how many letters it had.");
        LaughDrive x = new LaughDrive();
        due("of none", x.blank(), 0);
        x.letter('9');
        due("of one", x.blank(), 1);
        due("of none again", x.blank(), 0);
        due("of all", Scene.FULL.made().blank(), 40);
        LaughDrive y = on("99;12;l05,t14");
        Sheet.write(y, "99");
        y.drive(0, 0);
        due("of two, with a MOOR", y.blank(), 2);
        due("THE MOOR stays", y.count(6), 1);
        due("fault of an empty one", y.fault(), 0);
        due("none is read of it", y.moor(), STATE);
    }

    private static void fault(String text, int want) {
        LaughDrive x = Sheet.write(new LaughDrive(), text);
        due("fault() of " + text, x.fault(), want);
        due("and again", x.fault(), want);
        due("letters stay", x.count(10), text.length());
    }

    private static void promise4() {
        S.sentence("The place (from 0) of the first letter of THE PAGE that no MOOR has there, behind those ahead of it");
        fault("x", 0);
        fault("9x", 1);
        fault("x99;12;l00,t11", 0);
        // Two are wrong: the first one.
        fault("9x9;y", 1);
        fault("99;12;l00,t11;x", 13);
        // It is wrong only behind those ahead of it.
        fault("99;12;l1", 8);
        fault("99;12;l2", 7);
        fault("99;123;l2", 9);
        fault("99;123;l3", 8);
        fault("999999;1234;l00,t11,g22,c33,k04,l19;", 35);
        fault("9".repeat(40), 6);
        fault("99;12;l00,t11,g02,c13,k04,l19" + ",".repeat(11), 29);
        S.sentence("how many letters it has, if there is none");
        fault("", 0);
        fault("9", 1);
        fault("99;12;l00,t11", 13);
        fault("999999;1234;l00,t11,g22,c33,k04,l19", 35);
    }

    private static void promise5() {
        S.sentence("THE PAGE is read as THE MOOR");
        LaughDrive x = Sheet.write(new LaughDrive(), "90;18;l05,k16");
        due("two", x.moor(), 2);
        due("six", Sheet.write(new LaughDrive(), "90;18;l05,k16,l00,l00,l00,l00").moor(), 6);
        due("PEG 1", x.peg(1, 0), 0);
        due("COVERT 1", x.covert(1, 0), 8);
        due("KIND", x.laugh(1, 0), 4);
        due("where", x.laugh(1, 1), 1);
        due("HIGH", x.laugh(1, 2), 6);
        S.sentence("THE PAGE is empty then");
        due("letters", x.count(10), 0);
        due("blank", x.blank(), 0);
        S.sentence("STATE: it is none");
        String text = "90;18;l05,k16";
        for (int length = 0; length < text.length(); length++) {
            LaughDrive y = Sheet.write(new LaughDrive(), text.substring(0, length));
            due("moor() of " + text.substring(0, length), y.moor(), STATE);
            due("letters stay", y.count(10), length);
            due("none is read", y.count(11), 0);
        }
        for (Scene scene : Scene.values()) {
            if (!scene.isPageWhole()) { refused("moor()", scene, STATE, LaughDrive::moor); }
        }
        due("a whole one", Scene.READY.made().moor(), 3);
    }

    private static void promise5Another() {
        S.sentence("(another one is gone, with all that was; how often stands() was done, how often a MOOR was read go on)");
        LaughDrive x = Scene.BUSY.made();
        x.blank();
        Sheet.write(x, "12;34;l00,t11");
        due("another one", x.moor(), 2);
        int[] wants = {2, 2, 2, 2, 0, 0, 0, 7, 3, 0, 0, 2, 2};
        for (int what = 0; what <= 12; what++) { due("count(" + what + ")", x.count(what), wants[what]); }
        due("PEG 2 is gone", x.peg(2, 0), UNKNOWN);
        due("COVERT 2 is gone", x.covert(2, 0), UNKNOWN);
        due("LAUGH 2 is gone", x.laugh(2, 0), UNKNOWN);
        due("its IMAGE is gone", x.restore(), STATE);
        due("what was SEEN is gone", x.laugh(0, 5), 3);
        LaughDrive y = Scene.FULL.made();
        due("a BAG", y.peg(0, 1), 1);
        y.blank();
        Sheet.write(y, "12;34;l00,t11").moor();
        due("the BAG is gone", y.peg(0, 1), 0);
        due("there is room in SEEN", y.see(0, 0, 0), 1);
        // One with more of all: nothing of before is in it.
        Sheet.write(x, "999999;0000;l05,l15,l25,l35,l05,l15").moor();
        due("BAGS", x.count(4), 0);
        due("all are in COVERTS", x.count(3), 6);
        due("three were read", x.count(11), 3);
        due("stands() goes on", x.count(12), 2);
    }

    // ---- 6 to 10: pegs, coverts, laughs

    private static void promise6() {
        S.sentence("Of a PEG: what = 0 REACH, 1 BAG. UNKNOWN; OUTSIDE.");
        pegs("peg(n, 0)", (x, n) -> x.peg(n, 0));
        pegs("peg(n, 1)", (x, n) -> x.peg(n, 1));
        for (Scene scene : Scene.values()) {
            if (scene.isMoor()) { bounds("peg(0, n)", scene, 0, 1, OUTSIDE, (x, n) -> x.peg(0, n)); }
        }
        refused("peg(6, 2): UNKNOWN first", Scene.GREAT, UNKNOWN, x -> x.peg(6, 2));
        noMoor("peg(0, 2)", UNKNOWN, x -> x.peg(0, 2));
        LaughDrive x = on("905;00;l05,l13");
        due("greatest REACH", x.peg(0, 0), 9);
        due("least REACH", x.peg(1, 0), 0);
        due("no BAG", x.peg(0, 1), 0);
        x.drive(0, 0);
        due("BAG", x.peg(0, 1), 1);
    }

    private static void promise7() {
        S.sentence("Of a COVERT: what = 0 FEED, 1 which LAUGHS are in it, as bits. UNKNOWN; OUTSIDE.");
        coverts("covert(n, 0)", (x, n) -> x.covert(n, 0));
        coverts("covert(n, 1)", (x, n) -> x.covert(n, 1));
        for (Scene scene : Scene.values()) {
            if (scene.isMoor()) { bounds("covert(0, n)", scene, 0, 1, OUTSIDE, (x, n) -> x.covert(0, n)); }
        }
        refused("covert(4, 2): UNKNOWN first", Scene.GREAT, UNKNOWN, x -> x.covert(4, 2));
        noMoor("covert(0, 2)", UNKNOWN, x -> x.covert(0, 2));
        due("all six", on("99;09;l05,l05,l05,l05,l05,l05").covert(0, 1), 63);
        due("none", on("99;09;l05,l05,l05,l05,l05,l05").covert(1, 1), 0);
        due("the last one alone", on("99;09;l05,l05,l05,l05,l05,l15").covert(1, 1), 32);
        due("least FEED", on("99;09;l05,l05").covert(0, 0), 0);
        due("greatest FEED", on("99;09;l05,l05").covert(1, 0), 9);
    }

    private static void promise8() {
        S.sentence("Of a LAUGH: what = 0 KIND, 1 the COVERT (NONE: in none), 2 how HIGH by itself, 3 HEIGHT (NONE: in none)");
        LaughDrive x = on("99;10;k02,l14");
        int[] before = {4, 0, 2, 9, 1, 3, 0};
        for (int what = 0; what <= 6; what++) { due("laugh(0, " + what + ")", x.laugh(0, what), before[what]); }
        due("it is had", x.drive(0, -1), 1);
        int[] then = {4, NONE, 2, NONE, 0, 3, 0};
        for (int what = 0; what <= 6; what++) { due("laugh(0, " + what + ") in none", x.laugh(0, what), then[what]); }
        x.put(0, 1);
        int[] again = {4, 1, 2, 8, 0, 3, 0};
        for (int what = 0; what <= 6; what++) { due("laugh(0, " + what + ") again", x.laugh(0, what), again[what]); }
        S.sentence("4 LIKELY, 5 COVERTS, as bits, 6 HEAR (NONE). UNKNOWN; OUTSIDE.");
        x.see(0, 1, 0);
        due("COVERTS, if it can be in none", x.laugh(0, 5), 0);
        due("HEAR then", x.laugh(0, 6), NONE);
        for (int what = 0; what <= 6; what++) {
            int w = what;
            laughs("laugh(n, " + w + ")", (y, n) -> y.laugh(n, w));
        }
        for (Scene scene : Scene.values()) {
            if (scene.isMoor()) { bounds("laugh(0, n)", scene, 0, 6, OUTSIDE, (y, n) -> y.laugh(0, n)); }
        }
        refused("laugh(6, 7): UNKNOWN first", Scene.GREAT, UNKNOWN, y -> y.laugh(6, 7));
        noMoor("laugh(0, 7)", UNKNOWN, y -> y.laugh(0, 7));
    }

    private static void promise9() {
        S.sentence("A LAUGH taken as a KIND: its own number (not that of the KIND); NONE: it is none such (the cast fails).");
        LaughDrive x = on("99;10;k02,g14,l00");
        due("LAUGH 0, a COCK, as a GUFFAW", x.as(0, 2), 0);
        due("LAUGH 1, a GUFFAW, as a LAUGH", x.as(1, 0), 1);
        due("LAUGH 1, a GUFFAW, as a COCK", x.as(1, 4), NONE);
        due("LAUGH 2 as a GUFFAW", x.as(2, 2), NONE);
        x.drive(0, 0);
        due("wherever it is", x.as(2, 0), 2);
        S.sentence("the cast fails). UNKNOWN; OUTSIDE.");
        laughs("as(n, 0)", (y, n) -> y.as(n, 0));
        laughs("as(n, 4)", (y, n) -> y.as(n, 4));
        for (Scene scene : Scene.values()) {
            if (scene.isMoor()) { bounds("as(0, n)", scene, 0, 4, OUTSIDE, (y, n) -> y.as(0, n)); }
        }
        refused("as(6, 5): UNKNOWN first", Scene.GREAT, UNKNOWN, y -> y.as(6, 5));
        refused("as(-1, -1): UNKNOWN first", Scene.GREAT, UNKNOWN, y -> y.as(-1, -1));
        noMoor("as(0, 5)", UNKNOWN, y -> y.as(0, 5));
    }

    private static void promise10() {
        S.sentence("Over which PEG a LAUGH would fly by a WIND (NONE: over none, or it is in no COVERT).");
        LaughDrive x = on("99;00;l02,l14");
        due("over none", x.over(0, -1), NONE);
        due("over the first", x.over(0, 0), 0);
        due("over the last", x.over(1, 0), 1);
        due("over none, there", x.over(1, 1), NONE);
        x.drive(0, 0);
        for (int wind = -1; wind <= 1; wind++) { due("in no COVERT, by " + wind, x.over(0, wind), NONE); }
        due("OUTSIDE, in no COVERT, too", x.over(0, 2), OUTSIDE);
        S.sentence("UNKNOWN: laugh; OUTSIDE: wind (-1 to 1).");
        laughs("over(n, 0)", (y, n) -> y.over(n, 0));
        for (Scene scene : Scene.values()) {
            if (scene.isMoor()) { bounds("over(0, n)", scene, -1, 1, OUTSIDE, (y, n) -> y.over(0, n)); }
        }
        refused("over(6, 2): UNKNOWN first", Scene.GREAT, UNKNOWN, y -> y.over(6, 2));
        noMoor("over(0, 2)", UNKNOWN, y -> y.over(0, 2));
    }

    // ---- 11 to 15: what is done

    private static void promise11() {
        S.sentence("A DRIVE: how many are had.");
        LaughDrive x = on("999999;000;l05,g05,k03,c09,l14,l20");
        due("by PEGS 0, 1, 2", x.drive(0, 0), 3);
        due("none gets up", x.drive(0, 0), 0);
        due("of two one", x.drive(1, 0), 1);
        due("of two none", x.drive(2, 1), 0);
        due("each is a DRIVE", x.count(6), 4);
        S.sentence("UNKNOWN: covert; OUTSIDE: wind; FULL: 999 were.");
        for (Scene scene : Scene.values()) {
            if (!scene.isDriven()) { bounds("drive(n, 0)", scene, 0, scene.coverts - 1, UNKNOWN, (y, n) -> y.drive(n, 0)); }
            if (scene.isMoor() && !scene.isDriven()) {
                bounds("drive(0, n)", scene, -1, 1, OUTSIDE, (y, n) -> y.drive(0, n));
            }
        }
        refused("drive(4, 2): UNKNOWN first", Scene.GREAT, UNKNOWN, y -> y.drive(4, 2));
        noMoor("drive(0, 2)", UNKNOWN, y -> y.drive(0, 2));
        // 999 take more calls than are promised.
        LaughDrive y = on("99;00;c00,c00");
        for (int n = 0; n < 998; n++) { y.drive(0, 0); }
        due("998 were", y.drive(0, 0), 0);
        due("999 were", y.drive(0, 0), FULL);
        due("999 are told", y.count(6), 999);
        for (int covert = 0; covert < 2; covert++) {
            int c = covert;
            refused("drive(" + c + ", 0) when 999 were", Scene.DRIVEN, FULL, z -> z.drive(c, 0));
        }
        refused("drive(2, 0) then: UNKNOWN first", Scene.DRIVEN, UNKNOWN, z -> z.drive(2, 0));
        refused("drive(0, 2) then: OUTSIDE first", Scene.DRIVEN, OUTSIDE, z -> z.drive(0, 2));
        refused("drive(2, 2) then: UNKNOWN first", Scene.DRIVEN, UNKNOWN, z -> z.drive(2, 2));
        y.image();
        y.restore();
        due("restored as FULL", y.drive(0, 0), FULL);
        Sheet.write(y, "99;00;c00,c00").moor();
        due("of another MOOR none was", y.drive(0, 0), 0);
    }

    private static void promise12() {
        S.sentence("A LAUGH is put into a COVERT, from wherever it is: in which it was (NONE).");
        LaughDrive x = on("999;000;l05,l14");
        due("from the first into the last", x.put(0, 2), 0);
        due("from the last into the first", x.put(0, 0), 2);
        due("where it is", x.put(0, 0), 0);
        due("it is there once", x.count(3), 2);
        x.drive(0, 0);
        due("from none", x.put(0, 2), NONE);
        due("it is there", x.covert(2, 1), 1);
        due("BAGS stay", x.count(4), 1);
        due("SPORT stays", x.count(5), 5);
        S.sentence("UNKNOWN: laugh, covert.");
        laughs("put(n, 0)", (y, n) -> y.put(n, 0));
        for (Scene scene : Scene.values()) {
            if (scene.isMoor()) { bounds("put(0, n)", scene, 0, scene.coverts - 1, UNKNOWN, (y, n) -> y.put(0, n)); }
        }
        refused("put(6, 4)", Scene.GREAT, UNKNOWN, y -> y.put(6, 4));
        refused("put(0, NONE): not into none", Scene.GREAT, UNKNOWN, y -> y.put(0, NONE));
        noMoor("put(0, 0)", UNKNOWN, y -> y.put(0, 0));
    }

    private static void promise13() {
        S.sentence("A COVERT is fed: how it was.");
        LaughDrive x = on("999;123;l05,l14");
        due("to the least", x.feed(2, 0), 3);
        due("to the greatest", x.feed(2, 9), 0);
        due("to the same", x.feed(2, 9), 9);
        due("it is", x.covert(2, 0), 9);
        due("no other one", x.covert(0, 0) * 10 + x.covert(1, 0), 12);
        S.sentence("UNKNOWN: covert; OUTSIDE: feed (0 to 9).");
        coverts("feed(n, 9)", (y, n) -> y.feed(n, 9));
        for (Scene scene : Scene.values()) {
            if (scene.isMoor()) { bounds("feed(1, n)", scene, 0, 9, OUTSIDE, (y, n) -> y.feed(1, n)); }
        }
        refused("feed(4, 10): UNKNOWN first", Scene.GREAT, UNKNOWN, y -> y.feed(4, 10));
        noMoor("feed(0, 10)", UNKNOWN, y -> y.feed(0, 10));
    }

    private static void promise14() {
        S.sentence("A PEG has another REACH: which it had.");
        LaughDrive x = on("123;999;l05,l14");
        due("to the least", x.arm(2, 0), 3);
        due("to the greatest", x.arm(2, 9), 0);
        due("to the same", x.arm(2, 9), 9);
        due("it is", x.peg(2, 0), 9);
        due("no other one", x.peg(0, 0) * 10 + x.peg(1, 0), 12);
        S.sentence("UNKNOWN: peg; OUTSIDE: reach (0 to 9).");
        pegs("arm(n, 9)", (y, n) -> y.arm(n, 9));
        for (Scene scene : Scene.values()) {
            if (scene.isMoor()) { bounds("arm(1, n)", scene, 0, 9, OUTSIDE, (y, n) -> y.arm(1, n)); }
        }
        refused("arm(6, 10): UNKNOWN first", Scene.GREAT, UNKNOWN, y -> y.arm(6, 10));
        noMoor("arm(0, 10)", UNKNOWN, y -> y.arm(0, 10));
    }

    private static void promise15() {
        S.sentence("A LAUGH flies so HIGH by itself: how HIGH it did.");
        LaughDrive x = on("999;000;l01,l12,l03");
        due("to the least", x.rear(2, 0), 3);
        due("to the greatest", x.rear(2, 9), 0);
        due("to the same", x.rear(2, 9), 9);
        due("it is", x.laugh(2, 2), 9);
        due("no other one", x.laugh(0, 2) * 10 + x.laugh(1, 2), 12);
        x.drive(0, 0);
        due("in none, too", x.rear(2, 4), 9);
        S.sentence("UNKNOWN: laugh; OUTSIDE: high (0 to 9).");
        laughs("rear(n, 9)", (y, n) -> y.rear(n, 9));
        for (Scene scene : Scene.values()) {
            if (scene.isMoor()) { bounds("rear(1, n)", scene, 0, 9, OUTSIDE, (y, n) -> y.rear(1, n)); }
        }
        refused("rear(6, 10): UNKNOWN first", Scene.GREAT, UNKNOWN, y -> y.rear(6, 10));
        noMoor("rear(0, 10)", UNKNOWN, y -> y.rear(0, 10));
    }

    // ---- 16 to 18: what would be

    private static void promise16() {
        S.sentence("10 to 15 of PEG 0 to 5 at which PEG its REACH is now (NONE: there is none such)");
        for (int pegs = 2; pegs <= 6; pegs++) {
            LaughDrive x = on("555555".substring(0, pegs) + ";00;l05,l14");
            for (int peg = 0; peg < 6; peg++) {
                due("of " + pegs + " PEGS stands(0, 0, " + (10 + peg) + ")", x.stands(0, 0, 10 + peg), peg < pegs ? peg : NONE);
            }
        }
        S.sentence("UNKNOWN: covert; OUTSIDE: wind, what");
        for (Scene scene : Scene.values()) {
            if (scene.isStandsDone()) { continue; }
            bounds("stands(n, 0, 0)", scene, 0, scene.coverts - 1, UNKNOWN, (y, n) -> y.stands(n, 0, 0));
            if (!scene.isMoor()) { continue; }
            bounds("stands(0, n, 0)", scene, -1, 1, OUTSIDE, (y, n) -> y.stands(0, n, 0));
            bounds("stands(0, 0, n)", scene, 10, 15, OUTSIDE, (y, n) -> y.stands(0, 0, n));
            for (int what : new int[] {-1, 1, 2, 5, 6}) {
                refused("stands(0, 0, " + what + ")", scene, OUTSIDE, y -> y.stands(0, 0, what));
            }
        }
        refused("stands(4, 2, 1): UNKNOWN first", Scene.GREAT, UNKNOWN, y -> y.stands(4, 2, 1));
        refused("stands(4, 0, 1): UNKNOWN first", Scene.GREAT, UNKNOWN, y -> y.stands(4, 0, 1));
        noMoor("stands(0, 0, 0)", UNKNOWN, y -> y.stands(0, 0, 0));
        noMoor("stands(0, 2, 1)", UNKNOWN, y -> y.stands(0, 2, 1));
    }

    private static void promise16TwentyTimes() {
        S.sentence("STATE: stands() was done 20 times ever");
        LaughDrive x = on("55;00;l05,l14");
        for (int n = 1; n <= 20; n++) {
            due("time " + n, x.stands(0, 0, 0), 5);
            due("so many were done", x.count(12), n);
        }
        due("time 21", x.stands(0, 0, 0), STATE);
        due("20 are told", x.count(12), 20);
        for (int what : new int[] {0, 10, 15}) {
            refused("stands(0, 0, " + what + ")", Scene.FULL, STATE, y -> y.stands(0, 0, what));
        }
        refused("UNKNOWN first", Scene.FULL, UNKNOWN, y -> y.stands(3, 0, 0));
        refused("OUTSIDE first, by the WIND", Scene.FULL, OUTSIDE, y -> y.stands(0, 2, 0));
        refused("OUTSIDE first, by what", Scene.FULL, OUTSIDE, y -> y.stands(0, 0, 1));
        S.sentence("(it counts on, whatever is read or restored)");
        LaughDrive y = on("55;00;l05,l14");
        y.stands(0, 0, 0);
        y.image();
        for (int n = 0; n < 9; n++) { y.stands(0, 0, 0); }
        y.restore();
        due("10, restored", y.count(12), 10);
        Sheet.write(y, "55;00;l05,l14").moor();
        due("10, read", y.count(12), 10);
        for (int n = 10; n < 20; n++) { due("after " + n, y.stands(1, 0, 0), 4); }
        due("after 20", y.stands(1, 0, 0), STATE);
        Sheet.write(y, "55;00;l05,l14").moor();
        due("after 20, read again", y.stands(1, 0, 0), STATE);
        y.image();
        y.restore();
        due("after 20, restored", y.stands(1, 0, 0), STATE);
        due("of another object none was done", on("55;00;l05,l14").stands(1, 0, 0), 4);
        S.sentence("(each call that is not refused is one, whatever what is)");
        LaughDrive z = on("55;00;l05,l14");
        int[] whats = {0, 10, 11, 12, 15};
        for (int n = 0; n < whats.length; n++) {
            z.stands(0, 0, whats[n]);
            due("of what = " + whats[n], z.count(12), n + 1);
        }
        z.stands(2, 0, 0);
        z.stands(0, 2, 0);
        z.stands(0, 0, 16);
        due("refused ones are none", z.count(12), 5);
    }

    private static void promise17() {
        S.sentence("10 to 13 the so-manieth COVERT (NONE: there are not so many)");
        for (int coverts = 2; coverts <= 4; coverts++) {
            LaughDrive x = on("55;" + "0000".substring(0, coverts) + ";c05,c14");
            for (int turn = 0; turn < 4; turn++) {
                due("of " + coverts + " COVERTS order(0, " + (10 + turn) + ")", x.order(0, 10 + turn), turn < coverts ? turn : NONE);
            }
        }
        S.sentence("ORDER: what = 0 how great, 10 to 13 the so-manieth COVERT (NONE: there are not so many). "
            + "OUTSIDE: wind, what; STATE: no MOOR.");
        for (Scene scene : Scene.values()) {
            if (!scene.isMoor()) { continue; }
            bounds("order(n, 0)", scene, -1, 1, OUTSIDE, (x, n) -> x.order(n, 0));
            bounds("order(0, n)", scene, 10, 13, OUTSIDE, (x, n) -> x.order(0, n));
            for (int what : new int[] {-1, 1, 4, 15}) {
                refused("order(0, " + what + ")", scene, OUTSIDE, x -> x.order(0, what));
            }
        }
        refused("order(2, 14)", Scene.GREAT, OUTSIDE, x -> x.order(2, 14));
        noMoor("order(-1, 0)", STATE, x -> x.order(-1, 0));
        noMoor("order(1, 13)", STATE, x -> x.order(1, 13));
        noMoor("order(2, 0): OUTSIDE first", OUTSIDE, x -> x.order(2, 0));
        noMoor("order(0, 14): OUTSIDE first", OUTSIDE, x -> x.order(0, 14));
    }

    private static void promise18() {
        S.sentence("GAME: what = 0 how much (told as 500 more), 1 which COVERT. OUTSIDE: wind, what; STATE: no MOOR.");
        LaughDrive x = on("99;00;l05,l14");
        due("how much", x.game(0, 0), 501);
        due("which", x.game(0, 1), 0);
        for (Scene scene : Scene.values()) {
            if (!scene.isMoor()) { continue; }
            bounds("game(n, 0)", scene, -1, 1, OUTSIDE, (y, n) -> y.game(n, 0));
            bounds("game(0, n)", scene, 0, 1, OUTSIDE, (y, n) -> y.game(0, n));
        }
        refused("game(2, 2)", Scene.GREAT, OUTSIDE, y -> y.game(2, 2));
        noMoor("game(-1, 0)", STATE, y -> y.game(-1, 0));
        noMoor("game(1, 1)", STATE, y -> y.game(1, 1));
        noMoor("game(-2, 0): OUTSIDE first", OUTSIDE, y -> y.game(-2, 0));
        noMoor("game(0, 2): OUTSIDE first", OUTSIDE, y -> y.game(0, 2));
    }

    // ---- 19 to 21: what is seen

    private static void promise19() {
        S.sentence("It is SEEN: how much is.");
        LaughDrive x = on("99;00;l05,l14");
        for (int n = 1; n <= 6; n++) { due("see " + n, x.see(1, 1, NONE), n); }
        due("see 7", x.see(1, 1, NONE), FULL);
        due("of a LAUGH in none", seenInNone(), 1);
        S.sentence("UNKNOWN: laugh, peg (NONE: over none); OUTSIDE: wind; FULL.");
        for (Scene scene : Scene.values()) {
            if (scene.isSeenFull()) { continue; }
            bounds("see(n, 0, NONE)", scene, 0, scene.laughs - 1, UNKNOWN, (y, n) -> y.see(n, 0, NONE));
            if (!scene.isMoor()) { continue; }
            bounds("see(0, 0, n)", scene, NONE, scene.pegs - 1, UNKNOWN, (y, n) -> y.see(0, 0, n));
            bounds("see(0, n, 0)", scene, -1, 1, OUTSIDE, (y, n) -> y.see(0, n, 0));
        }
        refused("see(6, 2, 6): UNKNOWN first", Scene.GREAT, UNKNOWN, y -> y.see(6, 2, 6));
        refused("see(0, 2, 6): UNKNOWN, of the PEG, first", Scene.GREAT, UNKNOWN, y -> y.see(0, 2, 6));
        refused("see(6, 2, 0): UNKNOWN, of the LAUGH, first", Scene.GREAT, UNKNOWN, y -> y.see(6, 2, 0));
        noMoor("see(0, 0, NONE)", UNKNOWN, y -> y.see(0, 0, NONE));
        for (int peg = NONE; peg < 4; peg++) {
            int p = peg;
            refused("see(0, 0, " + p + ")", Scene.FULL, FULL, y -> y.see(0, 0, p));
        }
        refused("see(0, 2, 0): OUTSIDE first", Scene.FULL, OUTSIDE, y -> y.see(0, 2, 0));
        refused("see(0, 0, 4): UNKNOWN first", Scene.FULL, UNKNOWN, y -> y.see(0, 0, 4));
        refused("see(4, 0, 0): UNKNOWN first", Scene.FULL, UNKNOWN, y -> y.see(4, 0, 0));
    }

    private static int seenInNone() {
        LaughDrive x = on("99;00;l05,l14");
        x.drive(0, 0);
        return x.see(0, 0, 0);
    }

    private static void promise20() {
        S.sentence("Nothing is SEEN any more: how much was.");
        due("with no MOOR", new LaughDrive().forget(), 0);
        LaughDrive x = on("99;00;l05,l14");
        due("nothing", x.forget(), 0);
        x.see(0, 0, 1);
        due("in one COVERT", x.laugh(0, 5), 2);
        due("one", x.forget(), 1);
        due("in any", x.laugh(0, 5), 3);
        due("nothing is left", x.forget(), 0);
        due("of six", Scene.FULL.made().forget(), 6);
        LaughDrive y = Scene.FULL.made();
        y.forget();
        due("room again", y.see(0, 0, 0), 1);
        LaughDrive z = on("99;00;l05,l14");
        z.drive(0, 0);
        z.see(0, 0, 1);
        z.forget();
        due("DRIVES stay", z.count(6), 1);
    }

    private static void promise21() {
        S.sentence("SEASONS: what = 0 SPORT, 1 how many, 2 the SEED then. OUTSIDE: times (1 to 60), seed (0 at least), what; "
            + "STATE: no MOOR.");
        for (Scene scene : Scene.values()) {
            if (!scene.isMoor()) { continue; }
            bounds("seasons(n, 0, 0)", scene, 1, 60, OUTSIDE, (x, n) -> x.seasons(n, 0, 0));
            bounds("seasons(1, 0, n)", scene, 0, 2, OUTSIDE, (x, n) -> x.seasons(1, 0, n));
            for (int seed : new int[] {-1, -2, DEEP, DEEP + 1}) {
                refused("seasons(1, " + seed + ", 0)", scene, OUTSIDE, x -> x.seasons(1, seed, 0));
            }
            for (int seed : new int[] {0, 1, FAR - 1, FAR}) {
                S.holds("seasons(1, " + seed + ", 0) in " + scene + " is taken", scene.made().seasons(1, seed, 0) >= 0);
            }
        }
        refused("seasons(0, -1, 3)", Scene.GREAT, OUTSIDE, x -> x.seasons(0, -1, 3));
        noMoor("seasons(1, 0, 0)", STATE, x -> x.seasons(1, 0, 0));
        noMoor("seasons(60, 1, 2)", STATE, x -> x.seasons(60, FAR, 2));
        noMoor("seasons(0, 0, 0): OUTSIDE first", OUTSIDE, x -> x.seasons(0, 0, 0));
        noMoor("seasons(61, 0, 0): OUTSIDE first", OUTSIDE, x -> x.seasons(61, 0, 0));
        noMoor("seasons(1, -1, 0): OUTSIDE first", OUTSIDE, x -> x.seasons(1, -1, 0));
        noMoor("seasons(1, 0, 3): OUTSIDE first", OUTSIDE, x -> x.seasons(1, 0, 3));
        LaughDrive x = on("99;00;l05,l14");
        x.drive(0, 0);
        x.drive(1, 0);
        due("all are in none: no SPORT by a COVERT that is empty", x.seasons(1, 1, 0), 0);
        // SEED 1: COVERT 0, WIND 0, and 10113 of 4, which is 1.
        due("none is put back", x.seasons(1, 1, 1), 0);
        due("the SEED then", x.seasons(1, 0, 2), 654583775);
        // SEED 0: 9988 of 4, which is 0.
        due("one is put back", x.seasons(1, 0, 1), 1);
    }

    // ---- 22 to 25: what is told of all

    private static void promise22() {
        S.sentence("An IMAGE is kept (one; the latest): how many DRIVES there were.");
        LaughDrive x = on("99;00;c05,c14");
        due("none were", x.image(), 0);
        x.drive(0, 0);
        due("one was", x.image(), 1);
        x.drive(0, 0);
        x.drive(0, 0);
        due("three were", x.image(), 3);
        x.drive(0, 0);
        due("the latest", x.restore(), 3);
        due("the latest still", x.restore(), 3);
        due("999 were", Scene.DRIVEN.made().image(), 999);
        S.sentence("(one; the latest): how many DRIVES there were. STATE: no MOOR.");
        noMoor("image()", STATE, LaughDrive::image);
        due("none is kept by it", new LaughDrive().restore(), STATE);
    }

    private static void promise23() {
        S.sentence("It goes on from the IMAGE: how many DRIVES there were (as it was kept).");
        LaughDrive x = on("99;00;c05,c14");
        x.drive(0, 0);
        x.image();
        x.drive(0, 0);
        due("one", x.restore(), 1);
        due("it goes on", x.drive(0, 0), 0);
        due("two", x.count(6), 2);
        due("one again", x.restore(), 1);
        S.sentence("STATE: none was kept, or a MOOR was read since (of the same text, too).");
        for (Scene scene : Scene.values()) {
            if (!scene.isKept()) { refused("restore()", scene, STATE, LaughDrive::restore); }
        }
        String text = "99;00;c05,c14";
        Sheet.write(x, "99;00;c05,c1").moor();
        due("one that was none: not read", x.restore(), 1);
        x.blank();
        Sheet.write(x, text);
        due("written, not read", x.restore(), 1);
        due("of the same text", x.moor(), 2);
        due("read since", x.restore(), STATE);
        due("nothing is changed", x.count(6), 0);
        due("kept anew", x.image(), 0);
        x.drive(0, 0);
        due("goes on from that", x.restore(), 0);
    }

    private static void promise24() {
        S.sentence("11 how often a MOOR was read, 12 how often stands() was done. OUTSIDE.");
        for (Scene scene : Scene.values()) { bounds("count", scene, 0, 12, OUTSIDE, LaughDrive::count); }
        S.sentence("0 PEGS, 1 COVERTS, 2 LAUGHS, 3 that are in COVERTS, 4 BAGS of all, 5 SPORT, 6 DRIVES, 7 FEED of all, "
            + "8 REACH of all, 9 what is SEEN, 10 letters of THE PAGE");
        counts(Scene.NEW.made(), 0, 0, 0, 0, 0, 0, 0, 0, 0, 0, 0, 0, 0);
        counts(Scene.WORDS.made(), 0, 0, 0, 0, 0, 0, 0, 0, 0, 0, 9, 0, 0);
        counts(Scene.SMALL.made(), 2, 2, 2, 2, 0, 0, 0, 3, 14, 0, 0, 1, 0);
        counts(Scene.GREAT.made(), 6, 4, 6, 6, 0, 0, 0, 10, 39, 0, 0, 1, 0);
        counts(on("999999;9999;l05,t16,g20,c35,k01,l13"), 6, 4, 6, 6, 0, 0, 0, 36, 54, 0, 0, 1, 0);
        // l of 5 over PEG 1, g of 5 over PEG 2; then of k (6, over PEG 3, of 7), t and l in COVERT 1, where FEED is 0:
        // t of 2 and l of 3 over PEG 1. LAUGH 0 is put back.
        counts(Scene.BUSY.made(), 4, 3, 6, 3, 4, 19, 2, 9, 30, 3, 5, 1, 2);
        LaughDrive x = on("99;00;l05,l14");
        x.drive(0, 0);
        x.drive(1, 0);
        counts(x, 2, 2, 2, 0, 2, 9, 2, 0, 18, 0, 0, 1, 0);
    }

    private static void counts(LaughDrive x, int... wants) {
        for (int what = 0; what <= 12; what++) { due("count(" + what + ")", x.count(what), wants[what]); }
    }

    private static long mix(long before, long... numbers) {
        long h = before;
        for (long number : numbers) { h = 31 * h + number; }
        return h;
    }

    private static void promise25() {
        S.sentence("h is 1231, then for each of these numbers, in order, 31 times h, and it (as longs, wrapping)");
        due("with nothing", new LaughDrive().digest(), mix(1231, new long[13]));
        BigInteger whole = BigInteger.valueOf(1231).multiply(BigInteger.valueOf(31).pow(13));
        S.holds("that is more than a long holds", whole.bitLength() > 64);
        due("with nothing, wrapped", new LaughDrive().digest(), whole.longValue());
        due("with a page", Sheet.write(new LaughDrive(), " ~").digest(), mix(1231, 32, 126, 0, 0, 0, 0, 0, 0, 0, 0, 0, 0, 2, 0, 0));
        S.sentence("with a MOOR for each WIND from -1 on what order() tells for 0 and 10 to 13, game() for 0 and 1");
        LaughDrive x = on("90;00;l05,c10");
        long h = mix(1231, 9, 0, 0, 0);
        h = mix(h, 0, 1, 0, 2);
        // l: had by 0 alone; over none by -1, over PEG 0, over PEG 1. c: runs, over PEG 0, 1, none.
        h = mix(h, 0, 0, 5, 5, 1, 3, 0, NONE, 0, 1);
        h = mix(h, 3, 1, 0, 0, 0, 3, 0, 0, 1, NONE);
        // By -1 l goes from COVERT 0 to 1, from which it flies over PEG 0, for the other one: so he drives COVERT 1.
        h = mix(h, 5, 0, 1, NONE, NONE, 500, 1);
        h = mix(h, 5, 0, 1, NONE, NONE, 505, 0);
        h = mix(h, 0, 0, 1, NONE, NONE, 500, 0);
        h = mix(h, 2, 2, 2, 2, 0, 0, 0, 0, 9, 0, 0, 1, 0);
        due("by hand", x.digest(), h);
        due("it changes nothing", x.digest(), h);
        S.sentence("letters of THE PAGE, each by its code; what count() tells for 0 to 12");
        for (Scene scene : Scene.values()) { due("in " + scene, scene.made().digest(), byCalls(scene)); }
    }

    /** What the calls tell one by one, in the order of promise 25. */
    private static long byCalls(Scene scene) {
        LaughDrive x = scene.made();
        long h = 1231;
        for (int peg = 0; peg < scene.pegs; peg++) { h = mix(h, x.peg(peg, 0), x.peg(peg, 1)); }
        for (int covert = 0; covert < scene.coverts; covert++) { h = mix(h, x.covert(covert, 0), x.covert(covert, 1)); }
        for (int laugh = 0; laugh < scene.laughs; laugh++) {
            for (int what = 0; what <= 6; what++) { h = mix(h, x.laugh(laugh, what)); }
            h = mix(h, x.over(laugh, -1), x.over(laugh, 0), x.over(laugh, 1));
        }
        for (int wind = -1; scene.isMoor() && wind <= 1; wind++) {
            h = mix(h, x.order(wind, 0), x.order(wind, 10), x.order(wind, 11), x.order(wind, 12), x.order(wind, 13));
            h = mix(h, x.game(wind, 0), x.game(wind, 1));
        }
        for (char letter : scene.page.toCharArray()) { h = mix(h, letter); }
        for (int what = 0; what <= 12; what++) { h = mix(h, x.count(what)); }
        return h;
    }

    public static void main(String[] args) {
        promise1();
        promise2();
        promise3();
        promise4();
        promise5();
        promise5Another();
        promise6();
        promise7();
        promise8();
        promise9();
        promise10();
        promise11();
        promise12();
        promise13();
        promise14();
        promise15();
        promise16();
        promise16TwentyTimes();
        promise17();
        promise18();
        promise19();
        promise20();
        promise21();
        promise22();
        promise23();
        promise24();
        promise25();
        S.close("CallBoundsTest");
    }
}
