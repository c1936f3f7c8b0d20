/** Notes every call whose answer is not the one that is due. */
final class Sheet {
    private int wrong;
    private int asked;

    void due(String call, long got, long want) {
        asked++;
        if (got != want) {
            wrong++;
            if (wrong <= 20) {
                System.out.println(call + " answered " + got + ", due is " + want);
            }
        }
    }

    void holds(String what, boolean isSo) {
        due(what, isSo ? 1 : 0, 1);
    }

    int wrong() {
        return wrong;
    }

    void close(String name) {
        System.out.println(name + ": " + asked + " answers, " + wrong + " not as due");
        if (wrong != 0) {
            System.exit(1);
        }
    }

    static LaughDrive write(LaughDrive x, String text) {
        for (char letter : text.toCharArray()) {
            x.letter(letter);
        }
        return x;
    }

    /** A new object that has read this moor. */
    static LaughDrive on(String text) {
        LaughDrive x = write(new LaughDrive(), text);
        x.moor();
        return x;
    }
}
