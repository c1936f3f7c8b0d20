/** Notes every call whose answer is not the one that is due. */
final class Sheet {
    private int wrong;
    private int asked;
    private int sentences;
    private int askedBefore;
    private String sentence = "";

    /** From here on it is this sentence of the document that is looked at; each must have an answer of its own. */
    void sentence(String words) {
        noteEmpty();
        sentences++;
        askedBefore = asked;
        sentence = "\"" + words + "\": ";
    }

    void due(String call, long got, long want) {
        asked++;
        if (got != want) {
            wrong++;
            if (wrong <= 20) {
                System.out.println(sentence + call + " answered " + got + ", due is " + want);
            }
        }
    }

    void holds(String what, boolean isSo) {
        due(what, isSo ? 1 : 0, 1);
    }

    int wrong() {
        return wrong;
    }

    void close(String name) {
        noteEmpty();
        System.out.println(name + ": " + (sentences == 0 ? "" : sentences + " sentences, ")
            + asked + " answers, " + wrong + " not as due");
        if (wrong != 0) {
            System.exit(1);
        }
    }

    private void noteEmpty() {
        if (sentences > 0 && asked == askedBefore) {
            wrong++;
            System.out.println(sentence + "nothing was asked");
        }
    }

    static LaughDrive write(LaughDrive x, String text) {
        for (char letter : text.toCharArray()) {
            x.letter(letter);
        }
        return x;
    }

    /** A new object that has read this moor. */
    static LaughDrive on(String text) {
        LaughDrive x = write(new LaughDrive(), text);
        x.moor();
        return x;
    }
}
