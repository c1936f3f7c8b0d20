import java.util.ArrayList;
import java.util.List;

/**
 * Each call, in each scene, with each mix of numbers about its bounds: that it is refused when the document says so,
 * by the first of several refusals as the call tells them; that a refused one changes nothing; that no other is.
 */
public final class RefusalTest {
    private static final int UNKNOWN = LaughDrive.UNKNOWN, OUTSIDE = LaughDrive.OUTSIDE, STATE = LaughDrive.STATE,
        FULL = LaughDrive.FULL, TAKEN = 0;
    private static final int FAR = Integer.MAX_VALUE, DEEP = Integer.MIN_VALUE;
    private static final int[] CODES = {DEEP, -1, 0, 10, 31, 32, 33, 125, 126, 127, 128, 256 + 65, 65536 + 65, FAR};
    private static final int[] PLACES = {DEEP, -101, -2, -1, 0, 1, 2, 3, 4, 5, 6, 7, 32, FAR};
    private static final int[] WINDS = {DEEP, -2, -1, 0, 1, 2, FAR};
    private static final int[] DIGITS = {DEEP, -1, 0, 1, 8, 9, 10, 57, FAR};
    private static final int[] WHATS = {DEEP, -1, 0, 1, 2, 3, 5, 6, 7, 9, 10, 11, 12, 13, 14, 15, 16, FAR};
    private static final int[] TIMES = {DEEP, -1, 0, 1, 2, 59, 60, 61, FAR};
    private static final int[] SEEDS = {DEEP, -1, 0, 1, FAR};
    private static final int[] NO_NUMBER = {0};
    /** So many of the 512 calls of an object are refused ones; a digest behind each. */
    private static final int BATCH = 100;
    private static final Sheet S = new Sheet();
    private static int refused;

    private interface Call {
        int on(LaughDrive x, int a, int b, int c);
    }

    private interface Rule {
        /** The refusal that is due, or TAKEN. */
        int due(Scene s, int a, int b, int c);
    }

    private static boolean out(int number, int least, int most) {
        return number < least || number > most;
    }

    private static boolean noRow(int what, int length) {
        return what != 0 && out(what, 10, 9 + length);
    }

    private static int first(int... refusals) {
        for (int refusal : refusals) { if (refusal != TAKEN) { return refusal; } }
        return TAKEN;
    }

    private static int unknown(boolean isSo) { return isSo ? UNKNOWN : TAKEN; }

    private static int outside(boolean isSo) { return isSo ? OUTSIDE : TAKEN; }

    private static int state(boolean isSo) { return isSo ? STATE : TAKEN; }

    private static int full(boolean isSo) { return isSo ? FULL : TAKEN; }

    private static int peg(Scene s, int a) { return unknown(out(a, 0, s.pegs - 1)); }

    private static int covert(Scene s, int a) { return unknown(out(a, 0, s.coverts - 1)); }

    private static int laugh(Scene s, int a) { return unknown(out(a, 0, s.laughs - 1)); }

    private static int from(int number, int least, int most) { return outside(out(number, least, most)); }

    private static void theMoor() {
        look("letter", CODES, NO_NUMBER, NO_NUMBER, (x, a, b, c) -> x.letter(a),
            (s, a, b, c) -> first(from(a, 32, 126), full(s.isPageFull())));
        look("blank", NO_NUMBER, NO_NUMBER, NO_NUMBER, (x, a, b, c) -> x.blank(), (s, a, b, c) -> TAKEN);
        look("fault", NO_NUMBER, NO_NUMBER, NO_NUMBER, (x, a, b, c) -> x.fault(), (s, a, b, c) -> TAKEN);
        look("moor", NO_NUMBER, NO_NUMBER, NO_NUMBER, (x, a, b, c) -> x.moor(), (s, a, b, c) -> state(!s.isPageWhole()));
    }

    private static void pegsCovertsLaughs() {
        look("peg", PLACES, WHATS, NO_NUMBER, (x, a, b, c) -> x.peg(a, b),
            (s, a, b, c) -> first(peg(s, a), from(b, 0, 1)));
        look("covert", PLACES, WHATS, NO_NUMBER, (x, a, b, c) -> x.covert(a, b),
            (s, a, b, c) -> first(covert(s, a), from(b, 0, 1)));
        look("laugh", PLACES, WHATS, NO_NUMBER, (x, a, b, c) -> x.laugh(a, b),
            (s, a, b, c) -> first(laugh(s, a), from(b, 0, 6)));
        look("as", PLACES, PLACES, NO_NUMBER, (x, a, b, c) -> x.as(a, b),
            (s, a, b, c) -> first(laugh(s, a), from(b, 0, 4)));
        look("over", PLACES, WINDS, NO_NUMBER, (x, a, b, c) -> x.over(a, b),
            (s, a, b, c) -> first(laugh(s, a), from(b, -1, 1)));
    }

    private static void whatIsDone() {
        look("drive", PLACES, WINDS, NO_NUMBER, (x, a, b, c) -> x.drive(a, b),
            (s, a, b, c) -> first(covert(s, a), from(b, -1, 1), full(s.isDriven())));
        look("put", PLACES, PLACES, NO_NUMBER, (x, a, b, c) -> x.put(a, b),
            (s, a, b, c) -> first(laugh(s, a), covert(s, b)));
        look("feed", PLACES, DIGITS, NO_NUMBER, (x, a, b, c) -> x.feed(a, b),
            (s, a, b, c) -> first(covert(s, a), from(b, 0, 9)));
        look("arm", PLACES, DIGITS, NO_NUMBER, (x, a, b, c) -> x.arm(a, b),
            (s, a, b, c) -> first(peg(s, a), from(b, 0, 9)));
        look("rear", PLACES, DIGITS, NO_NUMBER, (x, a, b, c) -> x.rear(a, b),
            (s, a, b, c) -> first(laugh(s, a), from(b, 0, 9)));
    }

    private static void whatWouldBe() {
        look("stands", PLACES, WINDS, WHATS, (x, a, b, c) -> x.stands(a, b, c),
            (s, a, b, c) -> first(covert(s, a), from(b, -1, 1), outside(noRow(c, 6)), state(s.isStandsDone())));
        look("order", WINDS, WHATS, NO_NUMBER, (x, a, b, c) -> x.order(a, b),
            (s, a, b, c) -> first(from(a, -1, 1), outside(noRow(b, 4)), state(!s.isMoor())));
        look("game", WINDS, WHATS, NO_NUMBER, (x, a, b, c) -> x.game(a, b),
            (s, a, b, c) -> first(from(a, -1, 1), from(b, 0, 1), state(!s.isMoor())));
    }

    private static void whatIsSeen() {
        look("see", PLACES, WINDS, PLACES, (x, a, b, c) -> x.see(a, b, c),
            (s, a, b, c) -> first(laugh(s, a), unknown(out(c, -1, s.pegs - 1)), from(b, -1, 1), full(s.isSeenFull())));
        look("forget", NO_NUMBER, NO_NUMBER, NO_NUMBER, (x, a, b, c) -> x.forget(), (s, a, b, c) -> TAKEN);
        look("seasons", TIMES, SEEDS, WHATS, (x, a, b, c) -> x.seasons(a, b, c),
            (s, a, b, c) -> first(from(a, 1, 60), from(b, 0, FAR), from(c, 0, 2), state(!s.isMoor())));
    }

    private static void whatIsToldOfAll() {
        look("image", NO_NUMBER, NO_NUMBER, NO_NUMBER, (x, a, b, c) -> x.image(), (s, a, b, c) -> state(!s.isMoor()));
        look("restore", NO_NUMBER, NO_NUMBER, NO_NUMBER, (x, a, b, c) -> x.restore(), (s, a, b, c) -> state(!s.isKept()));
        look("count", WHATS, NO_NUMBER, NO_NUMBER, (x, a, b, c) -> x.count(a), (s, a, b, c) -> from(a, 0, 12));
    }

    private static void look(String name, int[] as, int[] bs, int[] cs, Call call, Rule rule) {
        for (Scene s : Scene.values()) {
            List<int[]> refusals = new ArrayList<>();
            for (int a : as) {
                for (int b : bs) {
                    for (int c : cs) {
                        if (rule.due(s, a, b, c) != TAKEN) {
                            refusals.add(new int[] {a, b, c});
                        } else {
                            // One that is taken may change the object, so it has one of its own.
                            int got = call.on(s.made(), a, b, c);
                            S.holds(told(name, s, a, b, c) + " is taken, but answered " + got, got >= LaughDrive.NONE);
                        }
                    }
                }
            }
            refuse(name, s, refusals, call, rule);
        }
    }

    private static void refuse(String name, Scene s, List<int[]> refusals, Call call, Rule rule) {
        List<Long> twin = Scene.goesOn(s.made());
        long before = s.made().digest();
        for (int at = 0; at < refusals.size(); at += BATCH) {
            LaughDrive x = s.made();
            for (int[] n : refusals.subList(at, Math.min(at + BATCH, refusals.size()))) {
                String told = told(name, s, n[0], n[1], n[2]);
                S.due(told, call.on(x, n[0], n[1], n[2]), rule.due(s, n[0], n[1], n[2]));
                S.due(told + ", the digest behind it", x.digest(), before);
                refused++;
            }
            S.holds(name + " in " + s + ": refused ones change nothing that follows", Scene.goesOn(x).equals(twin));
        }
    }

    private static String told(String name, Scene s, int a, int b, int c) {
        return name + "(" + a + ", " + b + ", " + c + ") in " + s;
    }

    /** A scene that is not what it is called would make nothing of all this. */
    private static void scenesAreAsTheyAreCalled() {
        for (Scene s : Scene.values()) {
            LaughDrive x = s.made();
            S.due(s + ": PEGS", x.count(0), s.pegs);
            S.due(s + ": COVERTS", x.count(1), s.coverts);
            S.due(s + ": LAUGHS", x.count(2), s.laughs);
            S.holds(s + ": letters", x.count(10) == 40 == s.isPageFull());
            S.holds(s + ": SEEN", x.count(9) == 6 == s.isSeenFull());
            S.holds(s + ": stands() done", x.count(12) == 20 == s.isStandsDone());
            S.holds(s + ": DRIVES", x.count(6) == 999 == s.isDriven());
        }
    }

    public static void main(String[] args) {
        scenesAreAsTheyAreCalled();
        theMoor();
        pegsCovertsLaughs();
        whatIsDone();
        whatWouldBe();
        whatIsSeen();
        whatIsToldOfAll();
        System.out.println("RefusalTest: " + refused + " refusals");
        S.close("RefusalTest");
    }
}
