import java.util.Random;

/** Long runs of calls, right and wrong ones, on the class and on the Reference at once. */
public final class RandomRunTest {
    private static final int[] FAR = {
        Integer.MIN_VALUE, Integer.MIN_VALUE + 1, -65536, -104, -103, -102, -101, -3, -2, 7, 9, 10, 11, 14, 15, 16, 31,
        32, 33, 61, 64, 127, 128, 999, 65536, Integer.MAX_VALUE - 1, Integer.MAX_VALUE};

    private final Sheet sheet;
    private final Random dice;
    private LaughDrive x;
    private Reference r;
    private int run;

    private RandomRunTest(Sheet sheet, long seed) {
        this.sheet = sheet;
        this.dice = new Random(seed);
    }

    private int from(int least, int most) {
        return least + dice.nextInt(most - least + 1);
    }

    /** Mostly a number that may be right, at times one that is not. */
    private int some(int least, int most) {
        int cast = dice.nextInt(24);
        if (cast == 0) { return FAR[dice.nextInt(FAR.length)]; }
        if (cast == 1) { return least - 1; }
        if (cast == 2) { return most + 1; }
        return from(least, most);
    }

    private String moorText() {
        int pegs = from(2, 6);
        int coverts = from(2, 4);
        int laughs = from(2, 6);
        int top = from(1, 9);
        StringBuilder text = new StringBuilder();
        for (int i = 0; i < pegs; i++) { text.append(from(dice.nextBoolean() ? 0 : 5, 9)); }
        text.append(';');
        for (int i = 0; i < coverts; i++) { text.append(from(0, top)); }
        text.append(';');
        int crowded = from(0, coverts - 1);
        for (int i = 0; i < laughs; i++) {
            text.append(i == 0 ? "" : ",").append("lllttggcckk".charAt(from(0, 10)));
            text.append(dice.nextInt(3) == 0 ? crowded : from(0, coverts - 1)).append(from(0, top));
        }
        return text.toString();
    }

    private String spoilt(String text) {
        StringBuilder bad = new StringBuilder(text);
        String signs = "0123456789;,ltgckLx ~";
        int place = from(0, bad.length() - 1);
        switch (dice.nextInt(4)) {
            case 0: bad.deleteCharAt(place); break;
            case 1: bad.insert(place, signs.charAt(from(0, signs.length() - 1))); break;
            case 2: bad.setCharAt(place, signs.charAt(from(0, signs.length() - 1))); break;
            default: bad.setLength(place); break;
        }
        return bad.toString();
    }

    private void due(String call, long got, long want) {
        sheet.due("run " + run + ": " + call, got, want);
    }

    private void write(String text) {
        for (char c : text.toCharArray()) { due("letter(" + (int) c + ")", x.letter(c), r.letter(c)); }
    }

    private void readSome() {
        due("blank()", x.blank(), r.blank());
        String text = moorText();
        if (dice.nextInt(3) == 0) {
            String bad = spoilt(text);
            write(bad);
            due("fault() of " + bad, x.fault(), r.fault());
            due("moor() of " + bad, x.moor(), r.moor());
            due("blank()", x.blank(), r.blank());
        }
        write(text);
        due("fault() of " + text, x.fault(), r.fault());
        due("moor() of " + text, x.moor(), r.moor());
    }

    private void call() {
        switch (dice.nextInt(24)) {
            case 0: { int a = some(32, 126); due("letter(" + a + ")", x.letter(a), r.letter(a)); break; }
            case 1: { due("fault()", x.fault(), r.fault()); break; }
            case 2: { int a = some(0, 5), b = some(0, 1); due("peg(" + a + ", " + b + ")", x.peg(a, b), r.peg(a, b)); break; }
            case 3: { int a = some(0, 3), b = some(0, 1); due("covert(" + a + ", " + b + ")", x.covert(a, b), r.covert(a, b)); break; }
            case 4:
            case 5: { int a = some(0, 5), b = some(0, 6); due("laugh(" + a + ", " + b + ")", x.laugh(a, b), r.laugh(a, b)); break; }
            case 6: { int a = some(0, 5), b = some(0, 4); due("as(" + a + ", " + b + ")", x.as(a, b), r.as(a, b)); break; }
            case 7: { int a = some(0, 5), b = some(-1, 1); due("over(" + a + ", " + b + ")", x.over(a, b), r.over(a, b)); break; }
            case 8:
            case 9: { int a = some(0, 3), b = some(-1, 1); due("drive(" + a + ", " + b + ")", x.drive(a, b), r.drive(a, b)); break; }
            case 10:
            case 11: { int a = some(0, 5), b = some(0, 3); due("put(" + a + ", " + b + ")", x.put(a, b), r.put(a, b)); break; }
            case 12: { int a = some(0, 3), b = some(0, 9); due("feed(" + a + ", " + b + ")", x.feed(a, b), r.feed(a, b)); break; }
            case 13: { int a = some(0, 5), b = some(0, 9); due("arm(" + a + ", " + b + ")", x.arm(a, b), r.arm(a, b)); break; }
            case 14: { int a = some(0, 5), b = some(0, 9); due("rear(" + a + ", " + b + ")", x.rear(a, b), r.rear(a, b)); break; }
            case 15: { if (dice.nextInt(4) == 0) { stands(); } break; }
            case 16: { int a = some(-1, 1), b = row(3); due("order(" + a + ", " + b + ")", x.order(a, b), r.order(a, b)); break; }
            case 17: { int a = some(-1, 1), b = some(0, 1); due("game(" + a + ", " + b + ")", x.game(a, b), r.game(a, b)); break; }
            case 18: { see(); break; }
            case 19: { if (dice.nextInt(5) == 0) { due("forget()", x.forget(), r.forget()); } break; }
            case 20: { seasons(); break; }
            case 21: { due("image()", x.image(), r.image()); break; }
            case 22: { due("restore()", x.restore(), r.restore()); break; }
            default: { int a = some(0, 12); due("count(" + a + ")", x.count(a), r.count(a)); break; }
        }
    }

    private int row(int most) {
        return dice.nextInt(3) == 0 ? some(0, 0) : some(10, 10 + most);
    }

    private void stands() {
        int a = some(0, 3), b = some(-1, 1), c = row(5);
        due("stands(" + a + ", " + b + ", " + c + ")", x.stands(a, b, c), r.stands(a, b, c));
    }

    /** Often what may really be seen, so that more than nothing is left of the coverts. */
    private void see() {
        int a = some(0, 5), b = some(-1, 1), c = dice.nextBoolean() ? r.over(a, b) : some(-1, 5);
        due("see(" + a + ", " + b + ", " + c + ")", x.see(a, b, c), r.see(a, b, c));
    }

    private void seasons() {
        int a = some(1, 60), c = some(0, 2);
        int b = dice.nextInt(3) == 0 ? some(0, 100) : dice.nextInt(Integer.MAX_VALUE);
        due("seasons(" + a + ", " + b + ", " + c + ")", x.seasons(a, b, c), r.seasons(a, b, c));
    }

    private void play(int number) {
        run = number;
        x = new LaughDrive();
        r = new Reference();
        for (int i = dice.nextInt(8); i > 0; i--) { call(); }
        readSome();
        for (int i = 0; i < 300; i++) {
            if (dice.nextInt(90) == 0) { readSome(); }
            call();
            if (i % 20 == 0) { due("digest()", x.digest(), r.digest()); }
        }
        due("digest()", x.digest(), r.digest());
    }

    public static void main(String[] args) {
        Sheet sheet = new Sheet();
        RandomRunTest test = new RandomRunTest(sheet, args.length == 0 ? 20261118L : Long.parseLong(args[0]));
        int runs = args.length < 2 ? 400 : Integer.parseInt(args[1]);
        for (int number = 0; number < runs && sheet.wrong() == 0; number++) { test.play(number); }
        sheet.close("RandomRunTest");
    }
}
