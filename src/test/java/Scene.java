import java.util.ArrayList;
import java.util.List;

/**
 * States that an object can be in, each made anew as often as it is asked for, with what is so in it.
 * Two of one scene are twins: a call that changes nothing leaves them alike in all that follows.
 */
enum Scene {
    NEW("", 0, 0, 0, ""),
    /** No MOOR yet; THE PAGE has some letters, which are none. */
    WORDS("", 0, 0, 0, "99;12;l05"),
    /** As little of all as can be. */
    SMALL("95;30;l05,g12", 2, 2, 2, ""),
    /** As much of all as can be. */
    GREAT("987654;1234;l05,t16,g20,c35,k01,l13", 6, 4, 6, ""),
    /** Some of all was done, an IMAGE is kept, and more was done then. */
    BUSY("9864;102;l04,t15,g01,c29,k10,l03", 4, 3, 6, "98;12"),
    /** THE PAGE has a whole MOOR. */
    READY("98;12;l05,g14,l03", 2, 2, 3, "98;12;l05,g14,l03"),
    /** An IMAGE was kept, and then the same text was read. */
    AGAIN("98;12;l05,g14,l03", 2, 2, 3, ""),
    /** THE PAGE, SEEN and stands() are full. */
    FULL("9876;123;l05,t16,g20,k01", 4, 3, 4, "98;12;l05,g14,l03,,,,,,,,,,,,,,,,,,,,,,,"),
    /** 999 DRIVES were. That takes more than the 512 calls for which the document promises anything. */
    DRIVEN("92;01;l05,k10,t13", 2, 2, 3, "");

    final String text;
    final int pegs;
    final int coverts;
    final int laughs;
    final String page;

    Scene(String text, int pegs, int coverts, int laughs, String page) {
        this.text = text;
        this.pegs = pegs;
        this.coverts = coverts;
        this.laughs = laughs;
        this.page = page;
    }

    boolean isMoor() { return laughs > 0; }

    boolean isPageFull() { return this == FULL; }

    boolean isPageWhole() { return this == READY; }

    boolean isSeenFull() { return this == FULL; }

    boolean isStandsDone() { return this == FULL; }

    boolean isDriven() { return this == DRIVEN; }

    boolean isKept() { return this == BUSY || this == READY || this == FULL || this == DRIVEN; }

    LaughDrive made() {
        LaughDrive x = isMoor() ? Sheet.on(text) : new LaughDrive();
        switch (this) {
            case BUSY: beBusy(x); break;
            case READY: x.drive(0, 0); x.image(); break;
            case AGAIN: x.image(); Sheet.write(x, text); x.moor(); break;
            case FULL: beFull(x); break;
            case DRIVEN: x.image(); for (int n = 0; n < 999; n++) { x.drive(n % 2, 0); } break;
            default: break;
        }
        return Sheet.write(x, page);
    }

    private static void beBusy(LaughDrive x) {
        x.drive(0, 1);
        x.see(0, 1, 1);
        x.stands(0, 0, 0);
        x.arm(3, 7);
        x.image();
        x.drive(1, 0);
        x.feed(2, 8);
        x.rear(1, 2);
        x.put(0, 2);
        x.see(3, 0, 2);
        x.see(4, 1, LaughDrive.NONE);
        x.stands(1, -1, 12);
    }

    private static void beFull(LaughDrive x) {
        x.drive(0, 0);
        x.image();
        x.drive(1, 0);
        for (int n = 0; n < 6; n++) { x.see(n % 4, 0, n % 3); }
        for (int n = 0; n < 20; n++) { x.stands(0, 0, 0); }
    }

    /** What it tells from here on, by calls that bring out all that it holds, what an IMAGE keeps, too. */
    static List<Long> goesOn(LaughDrive x) {
        List<Long> told = new ArrayList<>();
        told.add(x.digest());
        told.add((long) x.fault());
        told.add((long) x.stands(0, 0, 0));
        told.add((long) x.see(0, 0, LaughDrive.NONE));
        told.add((long) x.drive(0, 0));
        told.add((long) x.letter('9'));
        told.add(x.digest());
        told.add((long) x.restore());
        told.add(x.digest());
        told.add((long) x.forget());
        told.add((long) x.blank());
        Sheet.write(x, "99;12;l05,t13");
        told.add((long) x.moor());
        told.add(x.digest());
        told.add((long) x.restore());
        return told;
    }
}
