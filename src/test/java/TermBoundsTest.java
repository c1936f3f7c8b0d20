import java.math.BigInteger;
import java.util.function.ToLongFunction;

/**
 * "What it is" and "Terms" of the document: for each sentence that names a boundary case a method with a call on each
 * side of it. All dues are worked out by hand.
 */
public final class TermBoundsTest {
    private static final int NONE = LaughDrive.NONE, UNKNOWN = LaughDrive.UNKNOWN, STATE = LaughDrive.STATE,
        FULL = LaughDrive.FULL;
    private static final Sheet S = new Sheet();

    private static void due(String call, long got, long want) {
        S.due(call, got, want);
    }

    private static LaughDrive on(String text) {
        return Sheet.on(text);
    }

    // ---- a MOOR is a text

    private static void isMoor(String text, int laughs) {
        LaughDrive x = Sheet.write(new LaughDrive(), text);
        due("fault() of " + text, x.fault(), text.length());
        due("moor() of " + text, x.moor(), laughs);
    }

    /** A MOOR might go on like that, up to this place (its length: it is only not all of one). */
    private static void noMoor(String text, int place) {
        LaughDrive x = Sheet.write(new LaughDrive(), text);
        due("fault() of " + text, x.fault(), place);
        due("moor() of " + text, x.moor(), STATE);
    }

    /** Of all letters only these go on from here. */
    private static void goesOnBy(String start, String letters) {
        for (char letter = 32; letter <= 126; letter++) {
            LaughDrive x = Sheet.write(new LaughDrive(), start + letter);
            boolean fits = letters.indexOf(letter) >= 0;
            due("fault() of " + start + letter, x.fault(), fits ? start.length() + 1 : start.length());
        }
    }

    private static void twoToSixPegs() {
        S.sentence("two to six digits, the REACH (0 to 9) of PEGS 0, 1, and on (west to east)");
        noMoor(";12;l00,t11", 0);
        noMoor("9;12;l00,t11", 1);
        isMoor("90;12;l00,t11", 2);
        isMoor("905341;12;l00,t11", 2);
        noMoor("9053417;12;l00,t11", 6);
        goesOnBy("", "0123456789");
        goesOnBy("9", "0123456789");
        goesOnBy("90", "0123456789;");
        goesOnBy("90534", "0123456789;");
        goesOnBy("905341", ";");
        LaughDrive x = on("907;12;l00,t11");
        due("PEG 0", x.peg(0, 0), 9);
        due("PEG 1", x.peg(1, 0), 0);
        due("PEG 2", x.peg(2, 0), 7);
        due("PEG 3", x.peg(3, 0), UNKNOWN);
        due("the last of six", on("905341;12;l00,t11").peg(5, 0), 1);
        due("the last of two", on("90;12;l00,t11").peg(1, 0), 0);
    }

    private static void twoToFourCoverts() {
        S.sentence("two to four digits, the FEED (0 to 9) of COVERTS 0, 1, and on");
        noMoor("99;;l00,t11", 3);
        noMoor("99;1;l00,t11", 4);
        isMoor("99;09;l00,t11", 2);
        isMoor("99;1904;l00,t11", 2);
        noMoor("99;19045;l00,t11", 7);
        goesOnBy("99;", "0123456789");
        goesOnBy("99;1", "0123456789");
        goesOnBy("99;19", "0123456789;");
        goesOnBy("99;190", "0123456789;");
        goesOnBy("99;1904", ";");
        LaughDrive x = on("99;190;l00,t11");
        due("COVERT 0", x.covert(0, 0), 1);
        due("COVERT 1", x.covert(1, 0), 9);
        due("COVERT 2", x.covert(2, 0), 0);
        due("COVERT 3", x.covert(3, 0), UNKNOWN);
        due("the last of four", on("99;1904;l00,t11").covert(3, 0), 4);
    }

    private static void twoToSixLaughs() {
        S.sentence("two to six LAUGHS (numbered from 0) with \",\" between");
        noMoor("99;12;", 6);
        noMoor("99;12;l00", 9);
        isMoor("99;12;l00,t11", 2);
        isMoor("99;12;l00,t11,g02,c13,k04,l19", 6);
        noMoor("99;12;l00,t11,g02,c13,k04,l19,", 29);
        noMoor("99;12;l00,t11,g02,c13,k04,l19,l00", 29);
        noMoor("99;12;,l00,t11", 6);
        noMoor("99;12;l00,", 10);
        noMoor("99;12;l00,,t11", 10);
        noMoor("99;12;l00t11", 9);
        noMoor("99;12;l00,t11,", 14);
        goesOnBy("99;12;l00", ",");
        goesOnBy("99;12;l00,t11,g02,c13,k04", ",");
        goesOnBy("99;12;l00,t11,g02,c13,k04,l19", "");
        LaughDrive x = on("99;12;l03,t15");
        due("LAUGH 0", x.laugh(0, 2), 3);
        due("LAUGH 1", x.laugh(1, 2), 5);
        due("LAUGH 2", x.laugh(2, 2), UNKNOWN);
        due("the last of six", on("99;12;l00,t11,g02,c13,k04,l19").laugh(5, 2), 9);
    }

    private static void aLetterTheKind() {
        S.sentence("each a letter, the KIND");
        goesOnBy("99;12;", "ltgck");
        goesOnBy("99;12;l00,", "ltgck");
        goesOnBy("99;12;l00,t11,g02,c13,k04,", "ltgck");
        noMoor("99;12;L00,t11", 6);
        noMoor("99;12;00,t11", 6);
    }

    private static void aCovertThatThereIs() {
        S.sentence("the COVERT where it is (one that there is)");
        goesOnBy("99;12;l", "01");
        goesOnBy("99;123;l", "012");
        goesOnBy("99;1234;l", "0123");
        isMoor("99;12;l10,t10", 2);
        noMoor("99;12;l20,t10", 7);
        noMoor("99;12;l10,t20", 11);
        isMoor("99;123;l20,t20", 2);
        noMoor("99;123;l20,t30", 12);
        isMoor("99;1234;l30,t30", 2);
        noMoor("99;1234;l30,t40", 13);
        due("in the first one", on("99;1234;l00,t30").laugh(0, 1), 0);
        due("in the last one", on("99;1234;l00,t30").laugh(1, 1), 3);
    }

    private static void howHighItFlies() {
        S.sentence("and how HIGH it flies by itself (0 to 9)");
        goesOnBy("99;12;l0", "0123456789");
        goesOnBy("99;12;l00,t1", "0123456789");
        due("0", on("99;12;l00,t19").laugh(0, 2), 0);
        due("9", on("99;12;l00,t19").laugh(1, 2), 9);
        noMoor("99;12;l0,t19", 8);
        noMoor("99;12;l010,t19", 9);
    }

    private static void shortestAndLongest() {
        S.sentence("A MOOR is a text");
        isMoor("00;00;l00,l00", 2);
        String longest = "905341;1904;l00,t11,g22,c33,k04,l19";
        due("letters of the longest", longest.length(), 35);
        isMoor(longest, 6);
        for (int length = 0; length < longest.length(); length++) {
            String start = longest.substring(0, length);
            // With two LAUGHS or more, each whole, it is one all the same.
            if (length < 19 || (length - 19) % 4 != 0) { noMoor(start, length); } else { isMoor(start, 2 + (length - 19) / 4); }
        }
        for (String more : new String[] {" ", ",", ";", "0", "l", "     "}) { noMoor(longest + more, 35); }
        noMoor(" " + longest, 0);
    }

    private static void callsThatAnObjectIsUsedFor() {
        S.sentence("An object is used for at most 512 calls after it has been made");
        LaughDrive x = on("99;00;c00,t00");
        for (int n = 15; n < 512; n++) { x.drive(n % 2, 0); }
        due("the 512th call, 497 DRIVES before it", x.count(6), 497);
        LaughDrive y = on("99;00;l05,l14");
        long fresh = y.digest();
        y.image();
        for (int n = 17; n < 511; n++) { due("call " + n, n % 2 == 0 ? y.restore() : y.put(0, 1), 0); }
        due("the 511th, all as it was", y.restore(), 0);
        due("the 512th", y.digest(), fresh);
    }

    // ---- KINDS

    private static void atFirstThereIsNone() {
        S.sentence("At first there is none; then nothing was had.");
        LaughDrive x = new LaughDrive();
        due("PEGS", x.count(0), 0);
        due("COVERTS", x.count(1), 0);
        due("LAUGHS", x.count(2), 0);
        x = on("99;12;l00,t11");
        due("BAGS", x.count(4), 0);
        due("SPORT", x.count(5), 0);
        due("DRIVES", x.count(6), 0);
        due("SEEN", x.count(9), 0);
        due("all are in COVERTS", x.count(3), 2);
    }

    private static void kindsByTheLetter() {
        S.sentence("0 LAUGH \"l\", 1 TITTER \"t\", 2 GUFFAW \"g\", 3 CHUCKLE \"c\", 4 COCK \"k\"");
        LaughDrive x = on("99;12;l00,t00,g00,c00,k00");
        for (int kind = 0; kind < 5; kind++) { due("laugh(" + kind + ", 0)", x.laugh(kind, 0), kind); }
    }

    private static void aCockIsAGuffawToo() {
        S.sentence("All are LAUGHS; a COCK is a GUFFAW, too.");
        LaughDrive x = on("99;12;l00,t00,g00,c00,k00");
        for (int laugh = 0; laugh < 5; laugh++) { due("as(" + laugh + ", 0)", x.as(laugh, 0), laugh); }
        due("a COCK as a GUFFAW", x.as(4, 2), 4);
        due("a COCK as a COCK", x.as(4, 4), 4);
        due("a GUFFAW as a COCK", x.as(2, 4), NONE);
        due("a COCK as a TITTER", x.as(4, 1), NONE);
        due("a COCK as a CHUCKLE", x.as(4, 3), NONE);
        due("a LAUGH as a TITTER", x.as(0, 1), NONE);
    }

    // ---- how it flies

    private static void fliesOver(LaughDrive x, int laugh, int byWest, int byNone, int byEast) {
        due("over(" + laugh + ", -1)", x.over(laugh, -1), byWest);
        due("over(" + laugh + ", 0)", x.over(laugh, 0), byNone);
        due("over(" + laugh + ", 1)", x.over(laugh, 1), byEast);
    }

    private static void overThePegWithTheNumber() {
        S.sentence("flies over the PEG that has the number of the COVERT and as much more as the WIND is");
        LaughDrive x = on("999999;0000;l00,t10,c20,l30");
        fliesOver(x, 0, NONE, 0, 1);
        fliesOver(x, 1, 0, 1, 2);
        fliesOver(x, 2, 1, 2, 3);
        fliesOver(x, 3, 2, 3, 4);
    }

    private static void aGuffawOneMore() {
        S.sentence("(a GUFFAW 1 more than that, a COCK 2 more)");
        LaughDrive x = on("999999;0000;g00,g30,k00,k20,k30");
        fliesOver(x, 0, 0, 1, 2);
        fliesOver(x, 1, 3, 4, 5);
        fliesOver(x, 2, 1, 2, 3);
        fliesOver(x, 3, 3, 4, 5);
        fliesOver(x, 4, 4, 5, NONE);
    }

    private static void overNone() {
        S.sentence("over none, if there is none such");
        LaughDrive x = on("99;0000;l00,l10,l20,g00,g10,k00");
        fliesOver(x, 0, NONE, 0, 1);
        fliesOver(x, 1, 0, 1, NONE);
        fliesOver(x, 2, 1, NONE, NONE);
        fliesOver(x, 3, 0, 1, NONE);
        fliesOver(x, 4, 1, NONE, NONE);
        fliesOver(x, 5, 1, NONE, NONE);
        x.put(0, 3);
        fliesOver(x, 0, NONE, NONE, NONE);
        x.put(5, 1);
        fliesOver(x, 5, NONE, NONE, NONE);
        x.put(5, 0);
        due("none is had over none", x.drive(3, 0), 0);
        due("it goes on, behind the last COVERT", x.laugh(0, 1), 0);
    }

    private static void heights(String text, int... wants) {
        LaughDrive x = on(text);
        for (int laugh = 0; laugh < wants.length; laugh++) {
            due("laugh(" + laugh + ", 3) on " + text, x.laugh(laugh, 3), wants[laugh]);
        }
    }

    private static void highAndFeed() {
        S.sentence("Its HEIGHT is how HIGH it flies by itself, and the FEED of the COVERT");
        heights("99;09;l00,l09,l10,l19", 0, 9, 9, 18);
    }

    private static void halfRoundedDown() {
        S.sentence("of a TITTER half of that, rounded down");
        heights("99;09;t00,t01,t02,t03,t18,t19", 0, 0, 1, 1, 8, 9);
        heights("99;14;t00,t01,t10,t11", 0, 1, 2, 2);
    }

    private static void threeAndSixMore() {
        S.sentence("of a GUFFAW 3 more, of a COCK 6 more");
        heights("99;09;g00,g19,k00,k19,g10,k09", 3, 21, 6, 24, 12, 15);
    }

    private static void aChuckleRuns() {
        S.sentence("of a CHUCKLE 0 (it runs)");
        heights("99;09;c00,c09,c10,c19", 0, 0, 0, 0);
        LaughDrive x = on("99;99;c09,c19");
        due("none has it", x.drive(0, 0) + x.drive(1, 0), 0);
    }

    // ---- a DRIVE

    private static void allInThatCovertGetUp() {
        S.sentence("In a DRIVE all LAUGHS in that COVERT get up.");
        LaughDrive x = on("00;000;l01,l11,l21,c00,k10");
        x.drive(1, 0);
        due("those of COVERT 0 stay", x.covert(0, 1), 1 + 8);
        due("none stays in COVERT 1", x.covert(1, 1), 0);
        due("they come to those of COVERT 2", x.covert(2, 1), 2 + 4 + 16);
    }

    private static void eachPegHasOne() {
        S.sentence("Each PEG HAS one of those that fly over it");
        LaughDrive x = on("999;00;l05,l04,l03,g01,k00");
        due("three PEGS, one each", x.drive(0, 0), 3);
        due("two of PEG 0 are left", x.covert(1, 1), 2 + 4);
        due("SPORT", x.count(5), 5 + 4 + 6);
        LaughDrive y = on("99;00;l05,l04");
        due("one", y.drive(0, 0), 1);
        due("PEG 1 has none", y.peg(1, 1), 0);
    }

    /** Which LAUGHS a DRIVE of COVERT 0 by 0 takes, as bits. */
    private static void has(String text, int bits) {
        LaughDrive x = on(text);
        x.drive(0, 0);
        due("had of " + text, (1 << x.count(2)) - 1 - x.covert(0, 1) - x.covert(1, 1), bits);
    }

    private static void thatOfGreatestHeight() {
        S.sentence("that of greatest HEIGHT (of like ones the least number)");
        has("99;00;l04,l05", 2);
        has("99;00;l05,l04", 1);
        has("99;00;l05,l05", 1);
        has("99;00;l04,l05,l05", 2);
        has("99;00;t08,l04,t09,l04", 1);
        has("99;00;l03,t08,l04,t09", 2);
    }

    private static void heightOfOneAtLeast() {
        S.sentence("of those whose HEIGHT is 1 at least");
        has("99;00;l00,l00", 0);
        has("00;00;l00,l00", 0);
        has("99;00;l00,l01", 2);
        has("99;00;l01,l00", 1);
        has("99;00;t01,t00", 0);
        has("99;00;t02,t01", 1);
        has("99;00;c09,l00", 0);
        has("11;00;l00,l01", 2);
    }

    private static void noMoreThanItsReach() {
        S.sentence("and no more than its REACH");
        has("55;00;l05,l00", 1);
        has("55;00;l06,l00", 0);
        has("55;00;l06,l05", 2);
        has("55;00;l09,l06,l04", 4);
        has("00;00;l01,l02", 0);
        has("11;00;l01,l02", 1);
        has("99;10;l08,l09", 1);
        has("99;20;l08,l09", 0);
        has("99;00;g05,g06", 2);
        has("99;00;g07,g06", 2);
        has("999;00;k03,k04", 1);
        // Each PEG has its own REACH.
        has("19;00;l02,g00", 2);
        has("91;00;l02,g00", 1);
    }

    private static void bagAndSport() {
        S.sentence("its BAG is 1 more, and SPORT as much more as that HEIGHT is");
        LaughDrive x = on("99;00;l05,l04,g01,l11");
        due("BAG 0 before", x.peg(0, 1), 0);
        x.drive(0, 0);
        due("BAG 0", x.peg(0, 1), 1);
        due("BAG 1", x.peg(1, 1), 1);
        due("SPORT", x.count(5), 5 + 4);
        x.drive(1, 0);
        due("BAG 0 stays", x.peg(0, 1), 1);
        due("BAG 1 again", x.peg(1, 1), 2);
        due("SPORT again", x.count(5), 5 + 4 + 4);
        x.drive(1, 0);
        due("by a DRIVE of nothing BAGS stay", x.count(4), 3);
        due("and SPORT", x.count(5), 13);
    }

    private static void inNoCovertAnyMore() {
        S.sentence("that LAUGH is in no COVERT any more");
        LaughDrive x = on("99;00;l05,l14");
        due("in COVERTS before", x.count(3), 2);
        x.drive(0, 0);
        due("where it is", x.laugh(0, 1), NONE);
        due("COVERT 0", x.covert(0, 1), 0);
        due("COVERT 1", x.covert(1, 1), 2);
        due("in COVERTS", x.count(3), 1);
    }

    private static void theNextCovert() {
        S.sentence("All others that got up are in the next COVERT then (of the last one, in COVERT 0).");
        for (String coverts : new String[] {"00", "000", "0000"}) {
            LaughDrive x = on("00;" + coverts + ";l05,c05,k05");
            for (int covert = 0; covert + 1 < coverts.length(); covert++) {
                x.drive(covert, 1);
                due("behind COVERT " + covert + " of " + coverts.length(), x.covert(covert + 1, 1), 7);
            }
            x.drive(coverts.length() - 1, 1);
            due("behind the last of " + coverts.length(), x.covert(0, 1), 7);
        }
        // Not the greatest; too high; it runs; over none: all others.
        LaughDrive x = on("50;00;l05,l04,l06,c09,k00");
        x.drive(0, 0);
        due("all others", x.covert(1, 1), 2 + 4 + 8 + 16);
    }

    // ---- STANDS, ORDER, GAME, LIKELY

    private static void standsAre(String text, int covert, int wind, int sport, int... pegs) {
        LaughDrive x = on(text);
        String told = "stands(" + covert + ", " + wind + ", ";
        due(told + "0) on " + text, x.stands(covert, wind, 0), sport);
        for (int peg = 0; peg < 6; peg++) {
            due(told + (10 + peg) + ") on " + text, x.stands(covert, wind, 10 + peg), peg < pegs.length ? pegs[peg] : NONE);
        }
    }

    private static void eachReachAtOne() {
        S.sentence("which REACH of those that there are should be at which PEG (each at one)");
        // 9 alone reaches both, but it is at one PEG: l of 9 and g of 4 take 9 and 4.
        standsAre("49;00;l09,g01", 0, 0, 13, 1, 0);
        standsAre("39;00;l09,g01", 0, 0, 9, 1, 0);
        // Three over three PEGS, two REACHES of use.
        standsAre("090;00;l05,g02,k00", 0, 0, 6, 0, 2, 1);
        standsAre("990;00;l05,g02,k00", 0, 0, 11, 0, 2, 1);
        standsAre("111119;0000;k33,l00", 3, 0, 9, 0, 1, 2, 3, 4, 5);
        standsAre("911111;0000;k33,l00", 3, 0, 9, 1, 2, 3, 4, 5, 0);
    }

    private static void standsFirstByNumbers() {
        S.sentence("at PEG 0, 1, and on; of like ones the first by numbers");
        standsAre("55;00;l05,l14", 0, 0, 5, 0, 1);
        standsAre("555555;00;l05,l14", 0, 0, 5, 0, 1, 2, 3, 4, 5);
        standsAre("123456;00;l05,l05", 1, 0, 0, 0, 1, 2, 3, 4, 5);
        standsAre("99;00;c05,c15", 0, 0, 0, 0, 1);
        standsAre("0505;00;l05,l13", 0, 0, 5, 1, 0, 2, 3);
        standsAre("0079;00;l07,l10", 0, 0, 7, 2, 0, 1, 3);
        standsAre("0097;00;l07,l10", 0, 0, 7, 2, 0, 1, 3);
        // By 1 it flies over PEG 1: the least REACHES stay, and the first that is of use comes there.
        standsAre("0079;00;l07,l10", 0, 1, 7, 0, 2, 1, 3);
        // Over none: as they are.
        standsAre("0079;00;l07,l10", 0, -1, 0, 0, 1, 2, 3);
    }

    private static void standsThatSportIsGreatest() {
        S.sentence("so that SPORT by that DRIVE is greatest: how great");
        // A less REACH can be more: 5 has l05, 4 has l04, and 9 has what is over the other PEG.
        standsAre("59;00;l05,g06", 0, 0, 14, 0, 1);
        standsAre("95;00;l05,g06", 0, 0, 14, 1, 0);
        // 8 over PEG 0 for a REACH of 8 or 9, 9 over PEG 1 for 9 alone.
        standsAre("98;00;l08,g06", 0, 0, 17, 1, 0);
        standsAre("00;00;l08,g06", 0, 0, 0, 0, 1);
        LaughDrive x = on("98;00;l08,g06");
        x.arm(0, 0);
        due("as REACHES are now: one of 8", x.stands(0, 0, 0), 8);
        x.put(0, 1);
        due("as LAUGHS are now: g of 9 alone", x.stands(0, 0, 0), 0);
        due("no REACH is changed", x.peg(0, 0) * 10 + x.peg(1, 0), 8);
        due("no DRIVE was", x.count(6), 0);
        // Of two PEGS behind six: what was found for those is nothing to these.
        LaughDrive y = on("999999;0000;k35,l30,g30");
        due("of six PEGS", y.stands(3, -1, 0), 3);
        y.rear(0, 3);
        due("of six PEGS, two of use", y.stands(3, -1, 0), 9 + 3);
        Sheet.write(y, "99;00;l05,l14").moor();
        due("of two PEGS then", y.stands(0, 0, 0), 5);
    }

    private static void orderIs(String text, int wind, int sport, int... coverts) {
        LaughDrive x = on(text);
        due("order(" + wind + ", 0) on " + text, x.order(wind, 0), sport);
        for (int turn = 0; turn < 4; turn++) {
            int want = turn < coverts.length ? coverts[turn] : NONE;
            due("order(" + wind + ", " + (10 + turn) + ") on " + text, x.order(wind, 10 + turn), want);
        }
    }

    private static void allCovertsEachOnce() {
        S.sentence("in which order all COVERTS should be driven, each once");
        // PEG 3 alone reaches: it would take two DRIVES of COVERT 3 for both.
        orderIs("0009;0000;l35,l34", 0, 5, 0, 1, 2, 3);
        orderIs("99;00;l05,l04", 0, 9, 0, 1);
        orderIs("99;00;l15,l14", 0, 9, 1, 0);
        orderIs("999;000;l25,l24,l23", 0, 12, 2, 0, 1);
        // One is left behind the last COVERT, in COVERT 0, which is not driven again.
        orderIs("99;00;l05,l04,l03", 0, 9, 0, 1);
        orderIs("9999;0000;l05,l04,l03,l02,l01", 0, 14, 0, 1, 2, 3);
    }

    private static void orderFirstByNumbers() {
        S.sentence("how great; which; of like ones the first by numbers");
        orderIs("00;00;c00,c00", 0, 0, 0, 1);
        orderIs("00;000;c00,c00", 1, 0, 0, 1, 2);
        orderIs("00;0000;c00,c00", -1, 0, 0, 1, 2, 3);
        orderIs("9999;0000;l01,l11,l21,l31", 0, 4, 0, 1, 2, 3);
        // Any order with COVERT 2 ahead of 3 is as good.
        orderIs("0009;0000;l25,l24", 0, 5, 0, 1, 2, 3);
        // COVERTS 2, 3, 0 in that order; 1 comes first by numbers, as it is as good anywhere.
        orderIs("9000;0000;l25,l24", 0, 5, 1, 2, 3, 0);
    }

    private static void gameIs(String text, int wind, int lead, int covert) {
        LaughDrive x = on(text);
        due("game(" + wind + ", 0) on " + text, x.game(wind, 0), lead);
        due("game(" + wind + ", 1) on " + text, x.game(wind, 1), covert);
    }

    private static void inTurnTillAllAre() {
        S.sentence("two drive in turn, each a COVERT that was not driven yet in the GAME, till all are");
        gameIs("99;00;l04,l19", 0, 505, 1);
        gameIs("999;000;l04,l15,l29", 0, 508, 2);
        gameIs("9999;0000;l04,l15,l29,l31", 0, 507, 2);
        // 18 are in COVERT 0, for two DRIVES of it; but each is driven once, and the other one is behind it.
        gameIs("99;00;l09,l09", 0, 500, 0);
    }

    private static void fiveHundredMore() {
        S.sentence("how much that is for the first one (told as 500 more)");
        gameIs("00;00;l05,l15", 0, 500, 0);
        gameIs("90;00;l01,l15", 0, 501, 0);
        gameIs("09;00;l05,l11", 0, 501, 1);
        // Whichever he drives, it goes on to where the other one has it: 5 less; 6 or 5 less.
        gameIs("09;00;l05,g12", 0, 495, 0);
        gameIs("09;00;l06,g12", 0, 495, 1);
        // All that can be: three PEGS have 9 each by one DRIVE.
        gameIs("999;00;l09,g06,k03", 0, 527, 0);
    }

    private static void theLeastThatIsAsGood() {
        S.sentence("which COVERT he drives: the least that is as good");
        gameIs("99;00;l04,l14", 0, 500, 0);
        gameIs("9999;0000;l04,l14,l24,l34", 0, 500, 0);
        // 9 less 9 and 3, or 3 less 9 and 9.
        gameIs("999;000;l03,l19,l29", 0, 503, 0);
        gameIs("999;000;l09,l13,l29", 0, 503, 0);
        gameIs("99;00;l03,l14", 0, 501, 1);
    }

    private static void likely(String text, int want) {
        due("laugh(0, 4) on " + text, on(text).laugh(0, 4), want);
    }

    private static void likelyOfThree() {
        S.sentence("by a WIND of -1, 0, or 1, each as likely, how likely it is had, told as how many of 3");
        likely("999;00;l15,l00", 3);
        likely("909;00;l15,l00", 2);
        likely("99;00;l05,l00", 2);
        likely("900;00;l15,l00", 1);
        likely("990;0000;l25,l00", 1);
        likely("000;00;l15,l00", 0);
        likely("99;0000;l35,l00", 0);
        likely("999;00;c19,l00", 0);
        // Of one that is as high the least is had; of a higher one that is within reach, that one.
        likely("999;00;l15,l15", 3);
        due("the other one", on("999;00;l15,l15").laugh(1, 4), 0);
        likely("999;00;l15,l16", 0);
        likely("555;00;l15,l16", 3);
    }

    private static void likelyInNoCovert() {
        S.sentence("(0: it is in no COVERT)");
        LaughDrive x = on("999;00;l15,l00");
        due("while it is", x.laugh(0, 4), 3);
        x.drive(1, 0);
        due("in none", x.laugh(0, 4), 0);
        x.put(0, 1);
        due("again", x.laugh(0, 4), 3);
    }

    // ---- SEEN, COVERTS, HEAR

    private static void sixAtMost() {
        S.sentence("SEEN (6 at most)");
        LaughDrive x = on("99;00;l05,l14");
        for (int n = 1; n <= 6; n++) { due("see " + n, x.see(n % 2, 0, 0), n); }
        due("see 7", x.see(0, 0, 0), FULL);
        due("how much", x.count(9), 6);
        due("forget", x.forget(), 6);
        due("see anew", x.see(0, 0, 0), 1);
    }

    private static void seen(String text, int wind, int peg, int bits) {
        LaughDrive x = on(text);
        due("see(0, " + wind + ", " + peg + ") on " + text, x.see(0, wind, peg), 1);
        due("laugh(0, 5) then", x.laugh(0, 5), bits);
    }

    private static void overAPegOrOverNone() {
        S.sentence("would fly over a PEG (or over none), if that was driven by a WIND");
        seen("99;0000;l00,l00", -1, NONE, 1 + 8);
        seen("99;0000;l00,l00", -1, 0, 2);
        seen("99;0000;l00,l00", -1, 1, 4);
        seen("99;0000;l00,l00", 0, NONE, 4 + 8);
        seen("99;0000;l00,l00", 1, NONE, 2 + 4 + 8);
        seen("99;0000;l00,l00", 1, 0, 0);
        seen("99;0000;l00,l00", 1, 1, 1);
        seen("99;0000;g00,l00", -1, NONE, 4 + 8);
        seen("99;0000;k00,l00", -1, NONE, 2 + 4 + 8);
        seen("99;0000;k00,l00", 1, NONE, 15);
        seen("999999;0000;k00,l00", 1, 5, 4);
        seen("999999;0000;k00,l00", 1, NONE, 8);
        seen("999999;0000;l00,l00", 0, NONE, 0);
    }

    private static void allThatIsSeenIsSo() {
        S.sentence("COVERTS it can be in, so that all that is SEEN of it is so: as bits");
        due("nothing SEEN, two COVERTS", on("99;00;l05,l14").laugh(0, 5), 3);
        due("nothing SEEN, three", on("99;000;l05,l14").laugh(0, 5), 7);
        due("nothing SEEN, four", on("99;0000;l05,l14").laugh(0, 5), 15);
        LaughDrive x = on("99;0000;l05,l14");
        x.see(0, -1, NONE);
        x.see(0, 1, NONE);
        due("both are so in the last one alone", x.laugh(0, 5), 8);
        x.see(1, 0, 0);
        due("what is SEEN of the other one is nothing to it", x.laugh(0, 5), 8);
        due("nor to that", x.laugh(1, 5), 1);
        x.see(0, 0, 1);
        due("in none all is so", x.laugh(0, 5), 0);
        x.forget();
        due("nothing SEEN again", x.laugh(0, 5), 15);
    }

    private static void hearTellsTheWind() {
        S.sentence("by which WIND to drive (told as 1 more), so that fewest of these are left at worst");
        LaughDrive x = on("99;0000;l00,l00");
        due("-1", x.laugh(0, 6), 0);
        x.see(0, -1, NONE);
        // COVERTS 0 and 3: by -1 both over none, by 0 over PEG 0 and over none.
        due("0", x.laugh(0, 6), 1);
        due("-1 for the other one", x.laugh(1, 6), 0);
    }

    private static void hearOfLikeOnesTheLeast() {
        S.sentence("by the PEG over which it flies: of like ones the least");
        // By any WIND each COVERT is told apart.
        due("all as good", on("999999;0000;g00,l00").laugh(0, 6), 0);
        due("all as good, but over none", on("99;00;l00,l00").laugh(0, 6), 0);
        due("three are left by -1, four by 0 and by 1", on("99;0000;k00,l00").laugh(0, 6), 0);
        LaughDrive x = on("99;0000;l00,l00");
        x.see(0, 0, 0);
        due("one COVERT: nothing to tell apart", x.laugh(0, 5), 1);
        due("so -1", x.laugh(0, 6), 0);
        // By -1 and by 0 two are left at worst, by 1 three.
        due("-1 and 0 as good", on("99;0000;l00,l00").laugh(0, 6), 0);
    }

    private static void hearNone() {
        S.sentence("none, if there are none");
        LaughDrive x = on("99;0000;l00,l00");
        x.see(0, 0, 0);
        due("one COVERT", x.laugh(0, 6), 0);
        x.see(0, 0, 1);
        due("no COVERT", x.laugh(0, 5), 0);
        due("by none", x.laugh(0, 6), NONE);
        due("the other one", x.laugh(1, 6), 0);
    }

    // ---- SEASONS

    private static int drawsOf(int seed, int... wants) {
        long now = seed;
        for (int at = 0; at < wants.length; at += 2) {
            now = (now * 1103515245L + 12345L) % (1L << 31);
            if (now / 65536 % wants[at] != wants[at + 1]) { return at; }
        }
        return wants.length;
    }

    /** The least SEED whose DRAWS are these: of how many, which; and so on. */
    private static int seed(int... wants) {
        for (int seed = 0; seed < 10_000_000; seed++) {
            if (drawsOf(seed, wants) == wants.length) { return seed; }
        }
        S.holds("there is such a SEED", false);
        return 0;
    }

    private static void seasonsAre(String text, int times, int seed, int sport, int left) {
        LaughDrive x = on(text);
        String told = "seasons(" + times + ", " + seed + ", ";
        due(told + "0) on " + text, x.seasons(times, seed, 0), sport);
        due(told + "1) on " + text, x.seasons(times, seed, 1), left);
    }

    private static void aCovertByADraw() {
        S.sentence("a COVERT by a DRAW of how many there are");
        for (int covert = 0; covert < 4; covert++) {
            seasonsAre("9999;0000;l02,l13,l25,l39", 1, seed(4, covert, 3, 1, 4, 1), new int[] {2, 3, 5, 9}[covert], 3);
        }
        for (int covert = 0; covert < 3; covert++) {
            seasonsAre("9999;000;l02,l13,l25", 1, seed(3, covert, 3, 1, 4, 1), new int[] {2, 3, 5}[covert], 2);
        }
        for (int covert = 0; covert < 2; covert++) {
            seasonsAre("99;00;l02,l13", 1, seed(2, covert, 3, 1, 4, 1), new int[] {2, 3}[covert], 1);
        }
    }

    private static void aWindOneLess() {
        S.sentence("is driven by a WIND (a DRAW of 3, and 1 less)");
        for (int draw = 0; draw < 3; draw++) {
            int seed = seed(2, 1, 3, draw, 4, 1);
            seasonsAre("900;00;l15,l10", 1, seed, draw == 0 ? 5 : 0, draw == 0 ? 1 : 2);
            seasonsAre("090;00;l15,l10", 1, seed, draw == 1 ? 5 : 0, draw == 1 ? 1 : 2);
            seasonsAre("009;00;l15,l10", 1, seed, draw == 2 ? 5 : 0, draw == 2 ? 1 : 2);
        }
    }

    private static void aDrawOfFourIsNought() {
        S.sentence("if a DRAW of 4 (there is one behind each DRIVE) is 0");
        for (int draw = 0; draw < 4; draw++) {
            seasonsAre("99;00;l05,l13", 1, seed(2, 0, 3, 1, 4, draw), 5, draw == 0 ? 2 : 1);
        }
        // Where nothing was had, there is one all the same: the next COVERT is the fourth DRAW.
        seasonsAre("90;00;c05,l13", 2, seed(2, 0, 3, 1, 4, 0, 2, 1, 3, 0, 4, 1), 3, 1);
        seasonsAre("90;00;c05,l13", 2, seed(2, 0, 3, 1, 4, 2, 2, 1, 3, 0, 4, 1), 3, 1);
    }

    private static void theLeastInNoCovert() {
        S.sentence("the least LAUGH that is in no COVERT (if any is) is put into that one");
        int again = seed(2, 1, 3, 1, 4, 0, 2, 1, 3, 1, 4, 1);
        // 5 is had, and is put back, and is had again.
        seasonsAre("99;00;c00,l15", 2, again, 10, 1);
        // None is in none, so none is put anywhere.
        seasonsAre("99;00;c00,c15", 2, again, 0, 2);
        seasonsAre("09;00;l05,c15", 2, again, 0, 2);
        // Both are in none then: the least is put back, the one of 3.
        LaughDrive x = on("99;00;l03,l15");
        x.drive(0, 0);
        due("3, which was had before", x.seasons(2, again, 0), 5 + 3);
        due("none is left", x.seasons(2, again, 1), 0);
        due("it is as before", x.count(3), 1);
        // Into the COVERT that was driven, not the one behind it: COVERT 0 driven then has nothing.
        seasonsAre("99;00;c00,l15", 2, seed(2, 1, 3, 1, 4, 0, 2, 0, 3, 1, 4, 1), 5, 2);
    }

    private static void soManyTimes() {
        S.sentence("SEASONS by a SEED, as they would be: so many times");
        LaughDrive x = on("99;00;l05,t16");
        long before = x.digest();
        for (int times : new int[] {1, 2, 59, 60}) {
            due("the SEED then, " + times + " times", x.seasons(times, 7, 2), seedThen(7, 3 * times));
        }
        due("as they would be: nothing is changed", x.digest(), before);
        int seed = seed(2, 0, 3, 1, 4, 1);
        due("SPORT", x.seasons(1, seed, 0), 5);
        due("SPORT, once more as they would be", x.seasons(1, seed, 0), 5);
    }

    private static long seedThen(long seed, int draws) {
        BigInteger now = BigInteger.valueOf(seed);
        for (int n = 0; n < draws; n++) {
            now = now.multiply(BigInteger.valueOf(1103515245L)).add(BigInteger.valueOf(12345)).mod(BigInteger.ONE.shiftLeft(31));
        }
        return now.longValue();
    }

    private static void theRestBy2ToThe31() {
        S.sentence("the next SEED each time: 1103515245 times it and 12345, its rest by 2 to the 31");
        LaughDrive x = on("99;00;l05,t16");
        for (int seed : new int[] {0, 1, 2, 65535, 65536, 1 << 30, Integer.MAX_VALUE - 1, Integer.MAX_VALUE}) {
            due("seasons(1, " + seed + ", 2)", x.seasons(1, seed, 2), seedThen(seed, 3));
            due("seasons(60, " + seed + ", 2)", x.seasons(60, seed, 2), seedThen(seed, 180));
        }
    }

    private static void by65536RoundedDown() {
        S.sentence("then that by 65536 (rounded down), its rest");
        // SEED 0: 12345 is less than 65536: a DRAW of 0. SEED 1: 1103527590 is 16838 times 65536 and more.
        seasonsAre("99;00;g02,l14", 1, 0, 5, 2);
        due("DRAWS of SEED 0", drawsOf(0, 2, 0, 3, 21468 % 3, 4, 9988 % 4), 6);
        due("DRAWS of SEED 1", drawsOf(1, 32768, 16838), 2);
        // Of SEED 1: COVERT 16838 of 3, 2; WIND 5758 of 3, 1, so 0; 10113 of 4, 1: not put back.
        due("DRAWS of SEED 1", drawsOf(1, 32768, 16838, 32768, 5758, 32768, 10113), 6);
        seasonsAre("999;000;l01,l12,l24", 1, 1, 4, 2);
    }

    // ---- IMAGE

    /** What is told is changed by what is done, and is as it was by restore(). */
    private static void keeps(String what, LaughDrive x, ToLongFunction<LaughDrive> tells, ToLongFunction<LaughDrive> done) {
        x.image();
        long before = tells.applyAsLong(x);
        done.applyAsLong(x);
        S.holds(what + " is changed", tells.applyAsLong(x) != before);
        x.restore();
        due(what + " is as it was", tells.applyAsLong(x), before);
    }

    private static LaughDrive half() {
        LaughDrive x = on("987;123;l05,g14,l03,t27");
        x.drive(0, 0);
        x.see(0, 0, 1);
        return x;
    }

    private static void anImageKeeps() {
        S.sentence("An IMAGE keeps REACHES, FEEDS, where each LAUGH is, how HIGH, BAGS, SPORT, DRIVES, SEEN.");
        for (int peg = 0; peg < 3; peg++) {
            int p = peg;
            keeps("REACH " + p, half(), x -> x.peg(p, 0), x -> x.arm(p, 2));
        }
        for (int covert = 0; covert < 3; covert++) {
            int c = covert;
            keeps("FEED " + c, half(), x -> x.covert(c, 0), x -> x.feed(c, 9));
        }
        for (int laugh = 0; laugh < 4; laugh++) {
            int l = laugh;
            keeps("where LAUGH " + l + " is", half(), x -> x.laugh(l, 1), x -> x.put(l, l == 0 ? 1 : 0));
            keeps("how HIGH LAUGH " + l + " is", half(), x -> x.laugh(l, 2), x -> x.rear(l, 9));
        }
        keeps("in none", half(), x -> x.laugh(3, 1), x -> x.drive(2, 0));
        keeps("BAG 2", half(), x -> x.peg(2, 1), x -> x.drive(2, 0));
        keeps("SPORT", half(), x -> x.count(5), x -> x.drive(2, 0));
        keeps("DRIVES", half(), x -> x.count(6), x -> x.drive(0, 0));
        keeps("how much is SEEN, less", half(), x -> x.count(9), LaughDrive::forget);
        keeps("how much is SEEN, more", half(), x -> x.count(9), x -> x.see(1, 0, 0));
        keeps("what is SEEN", half(), x -> x.laugh(0, 5), x -> x.forget() + x.see(0, 0, 2));
        keeps("by which WIND", half(), x -> x.laugh(0, 5), x -> x.forget() + x.see(0, 1, 1));
        keeps("of which LAUGH", half(), x -> x.laugh(1, 5), x -> x.forget() + x.see(1, 0, 2));
    }

    private static void anImageKeepsNoMore() {
        S.sentence("where each LAUGH is, how HIGH, BAGS, SPORT, DRIVES, SEEN.");
        LaughDrive x = half();
        x.image();
        x.letter('9');
        x.stands(0, 0, 0);
        x.restore();
        due("and no more: letters", x.count(10), 1);
        due("and no more: stands() done", x.count(12), 1);
        due("and no more: a MOOR read", x.count(11), 1);
    }

    private static void theMoors() {
        twoToSixPegs();
        twoToFourCoverts();
        twoToSixLaughs();
        aLetterTheKind();
        aCovertThatThereIs();
        howHighItFlies();
        shortestAndLongest();
        callsThatAnObjectIsUsedFor();
    }

    private static void theFlights() {
        atFirstThereIsNone();
        kindsByTheLetter();
        aCockIsAGuffawToo();
        overThePegWithTheNumber();
        aGuffawOneMore();
        overNone();
        highAndFeed();
        halfRoundedDown();
        threeAndSixMore();
        aChuckleRuns();
    }

    private static void theDrives() {
        allInThatCovertGetUp();
        eachPegHasOne();
        thatOfGreatestHeight();
        heightOfOneAtLeast();
        noMoreThanItsReach();
        bagAndSport();
        inNoCovertAnyMore();
        theNextCovert();
    }

    private static void thePlans() {
        eachReachAtOne();
        standsFirstByNumbers();
        standsThatSportIsGreatest();
        allCovertsEachOnce();
        orderFirstByNumbers();
        inTurnTillAllAre();
        fiveHundredMore();
        theLeastThatIsAsGood();
        likelyOfThree();
        likelyInNoCovert();
    }

    private static void whatIsSeenAndKept() {
        sixAtMost();
        overAPegOrOverNone();
        allThatIsSeenIsSo();
        hearTellsTheWind();
        hearOfLikeOnesTheLeast();
        hearNone();
        aCovertByADraw();
        aWindOneLess();
        aDrawOfFourIsNought();
        theLeastInNoCovert();
        soManyTimes();
        theRestBy2ToThe31();
        by65536RoundedDown();
        anImageKeeps();
        anImageKeepsNoMore();
    }

    public static void main(String[] args) {
        theMoors();
        theFlights();
        theDrives();
        thePlans();
        whatIsSeenAndKept();
        S.close("TermBoundsTest");
    }
}
