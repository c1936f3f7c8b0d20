import java.util.ArrayList;
import java.util.Arrays;
import java.util.List;
import java.util.regex.Matcher;
import java.util.regex.Pattern;

/**
 * The document once more, in another way: by lists, by every row that there is, with no thought of
 * cost. It shares no code with LaughDrive, so that a slip in one shows against the other.
 */
final class Reference {
    static final int NONE = -1, UNKNOWN = -101, OUTSIDE = -102, STATE = -103, FULL = -104;
    private static final Pattern MOOR = Pattern.compile(
        "[0-9]{2,6};(?:"
        + "[0-9]{2};[ltgck][0-1][0-9](?:,[ltgck][0-1][0-9]){1,5}|"
        + "[0-9]{3};[ltgck][0-2][0-9](?:,[ltgck][0-2][0-9]){1,5}|"
        + "[0-9]{4};[ltgck][0-3][0-9](?:,[ltgck][0-3][0-9]){1,5})");

    private static final class Bird {
        char kind;
        int covert;
        int high;
        Bird(char kind, int covert, int high) { this.kind = kind; this.covert = covert; this.high = high; }
        Bird copy() { return new Bird(kind, covert, high); }
    }

    private static final class State {
        int[] reach = {};
        int[] bag = {};
        int[] feed = {};
        List<Bird> birds = new ArrayList<>();
        int sport;
        int drives;
        List<int[]> seen = new ArrayList<>();

        State copy() {
            State s = new State();
            s.reach = reach.clone();
            s.bag = bag.clone();
            s.feed = feed.clone();
            for (Bird b : birds) { s.birds.add(b.copy()); }
            s.sport = sport;
            s.drives = drives;
            s.seen.addAll(seen);
            return s;
        }

        int overFrom(Bird b, int covert, int wind) {
            if (covert == NONE) { return NONE; }
            int peg = covert + wind;
            if (b.kind == 'g') { peg++; }
            if (b.kind == 'k') { peg += 2; }
            return 0 <= peg && peg < reach.length ? peg : NONE;
        }

        int height(Bird b) {
            if (b.covert == NONE) { return NONE; }
            int h = b.high + feed[b.covert];
            if (b.kind == 't') { return (int) Math.floor(h / 2.0); }
            if (b.kind == 'g') { return h + 3; }
            if (b.kind == 'k') { return h + 6; }
            return b.kind == 'c' ? 0 : h;
        }

        /** Drives, and answers the laughs that were had. */
        List<Bird> drive(int covert, int wind) {
            List<Bird> up = new ArrayList<>();
            for (Bird b : birds) { if (b.covert == covert) { up.add(b); } }
            List<Bird> had = new ArrayList<>();
            for (int peg = 0; peg < reach.length; peg++) {
                Bird best = null;
                for (Bird b : up) {
                    if (overFrom(b, covert, wind) != peg || height(b) < 1 || height(b) > reach[peg]) { continue; }
                    if (best == null || height(b) > height(best)) { best = b; }
                }
                if (best != null) {
                    bag[peg]++;
                    sport += height(best);
                    had.add(best);
                }
            }
            for (Bird b : up) { b.covert = had.contains(b) ? NONE : (covert + 1) % feed.length; }
            drives++;
            return had;
        }
    }

    private String page = "";
    private State s = new State();
    private State image;
    private int read;
    private int stood;

    int letter(int code) {
        if (code < 32 || code > 126) { return OUTSIDE; }
        if (page.length() == 40) { return FULL; }
        page += (char) code;
        return page.length();
    }

    int blank() {
        int n = page.length();
        page = "";
        return n;
    }

    int fault() {
        int n = page.length();
        while (n > 0) {
            Matcher m = MOOR.matcher(page.substring(0, n));
            if (m.matches() || m.hitEnd()) { break; }
            n--;
        }
        return n;
    }

    int moor() {
        if (!MOOR.matcher(page).matches()) { return STATE; }
        String[] parts = page.split(";");
        s = new State();
        s.reach = parts[0].chars().map(c -> c - '0').toArray();
        s.bag = new int[s.reach.length];
        s.feed = parts[1].chars().map(c -> c - '0').toArray();
        for (String b : parts[2].split(",")) {
            s.birds.add(new Bird(b.charAt(0), b.charAt(1) - '0', b.charAt(2) - '0'));
        }
        page = "";
        image = null;
        read++;
        return s.birds.size();
    }

    private boolean noPeg(int peg) { return peg < 0 || peg >= s.reach.length; }
    private boolean noCovert(int covert) { return covert < 0 || covert >= s.feed.length; }
    private boolean noLaugh(int laugh) { return laugh < 0 || laugh >= s.birds.size(); }
    private static boolean not(int number, int least, int most) { return number < least || number > most; }
    private boolean noMoor() { return s.birds.isEmpty(); }

    int peg(int peg, int what) {
        if (noPeg(peg)) { return UNKNOWN; }
        if (not(what, 0, 1)) { return OUTSIDE; }
        return what == 0 ? s.reach[peg] : s.bag[peg];
    }

    int covert(int covert, int what) {
        if (noCovert(covert)) { return UNKNOWN; }
        if (not(what, 0, 1)) { return OUTSIDE; }
        if (what == 0) { return s.feed[covert]; }
        int bits = 0;
        for (int i = 0; i < s.birds.size(); i++) { if (s.birds.get(i).covert == covert) { bits += (int) Math.pow(2, i); } }
        return bits;
    }

    int laugh(int laugh, int what) {
        if (noLaugh(laugh)) { return UNKNOWN; }
        if (not(what, 0, 6)) { return OUTSIDE; }
        Bird b = s.birds.get(laugh);
        if (what == 0) { return "ltgck".indexOf(b.kind); }
        if (what == 1) { return b.covert; }
        if (what == 2) { return b.high; }
        if (what == 3) { return s.height(b); }
        if (what == 4) { return likely(laugh); }
        List<Integer> in = possible(laugh);
        if (what == 5) { return in.stream().mapToInt(c -> 1 << c).sum(); }
        return hear(b, in);
    }

    private int likely(int laugh) {
        int n = 0;
        for (int wind = -1; wind <= 1; wind++) {
            State t = s.copy();
            int covert = t.birds.get(laugh).covert;
            if (covert != NONE && t.drive(covert, wind).contains(t.birds.get(laugh))) { n++; }
        }
        return n;
    }

    private List<Integer> possible(int laugh) {
        List<Integer> in = new ArrayList<>();
        for (int c = 0; c < s.feed.length; c++) {
            boolean so = true;
            for (int[] e : s.seen) { so &= e[0] != laugh || s.overFrom(s.birds.get(laugh), c, e[1]) == e[2]; }
            if (so) { in.add(c); }
        }
        return in;
    }

    private int hear(Bird b, List<Integer> in) {
        int best = NONE;
        int fewest = 99;
        for (int wind = -1; wind <= 1 && !in.isEmpty(); wind++) {
            int[] left = new int[s.reach.length + 1];
            for (int c : in) { left[s.overFrom(b, c, wind) + 1]++; }
            int worst = Arrays.stream(left).max().getAsInt();
            if (worst < fewest) { fewest = worst; best = wind + 1; }
        }
        return best;
    }

    int as(int laugh, int kind) {
        if (noLaugh(laugh)) { return UNKNOWN; }
        if (not(kind, 0, 4)) { return OUTSIDE; }
        String kinds = List.of("l", "lt", "lg", "lc", "lgk").get("ltgck".indexOf(s.birds.get(laugh).kind));
        return kinds.indexOf("ltgck".charAt(kind)) >= 0 ? laugh : NONE;
    }

    int over(int laugh, int wind) {
        if (noLaugh(laugh)) { return UNKNOWN; }
        if (not(wind, -1, 1)) { return OUTSIDE; }
        Bird b = s.birds.get(laugh);
        return s.overFrom(b, b.covert, wind);
    }

    int drive(int covert, int wind) {
        if (noCovert(covert)) { return UNKNOWN; }
        if (not(wind, -1, 1)) { return OUTSIDE; }
        if (s.drives == 999) { return FULL; }
        return s.drive(covert, wind).size();
    }

    int put(int laugh, int covert) {
        if (noLaugh(laugh) || noCovert(covert)) { return UNKNOWN; }
        int was = s.birds.get(laugh).covert;
        s.birds.get(laugh).covert = covert;
        return was;
    }

    int feed(int covert, int feed) {
        if (noCovert(covert)) { return UNKNOWN; }
        if (not(feed, 0, 9)) { return OUTSIDE; }
        int was = s.feed[covert];
        s.feed[covert] = feed;
        return was;
    }

    int arm(int peg, int reach) {
        if (noPeg(peg)) { return UNKNOWN; }
        if (not(reach, 0, 9)) { return OUTSIDE; }
        int was = s.reach[peg];
        s.reach[peg] = reach;
        return was;
    }

    int rear(int laugh, int high) {
        if (noLaugh(laugh)) { return UNKNOWN; }
        if (not(high, 0, 9)) { return OUTSIDE; }
        int was = s.birds.get(laugh).high;
        s.birds.get(laugh).high = high;
        return was;
    }

    /** All orders of 0 to n - 1, the first by numbers first. */
    private static List<List<Integer>> orders(int n) {
        List<List<Integer>> rows = new ArrayList<>();
        rows.add(new ArrayList<>());
        for (int k = 0; k < n; k++) {
            List<List<Integer>> longer = new ArrayList<>();
            for (List<Integer> row : rows) {
                for (int i = 0; i < n; i++) {
                    if (!row.contains(i)) {
                        List<Integer> more = new ArrayList<>(row);
                        more.add(i);
                        longer.add(more);
                    }
                }
            }
            rows = longer;
        }
        return rows;
    }

    int stands(int covert, int wind, int what) {
        if (noCovert(covert)) { return UNKNOWN; }
        if (not(wind, -1, 1) || what != 0 && not(what, 10, 15)) { return OUTSIDE; }
        if (stood == 20) { return STATE; }
        stood++;
        int most = -1;
        List<Integer> best = null;
        for (List<Integer> row : orders(s.reach.length)) {
            State t = s.copy();
            for (int p = 0; p < t.reach.length; p++) { t.reach[p] = s.reach[row.get(p)]; }
            t.drive(covert, wind);
            if (t.sport - s.sport > most) { most = t.sport - s.sport; best = row; }
        }
        if (what == 0) { return most; }
        return what - 10 < best.size() ? best.get(what - 10) : NONE;
    }

    int order(int wind, int what) {
        if (not(wind, -1, 1) || what != 0 && not(what, 10, 13)) { return OUTSIDE; }
        if (noMoor()) { return STATE; }
        int most = -1;
        List<Integer> best = null;
        for (List<Integer> row : orders(s.feed.length)) {
            State t = s.copy();
            for (int c : row) { t.drive(c, wind); }
            if (t.sport - s.sport > most) { most = t.sport - s.sport; best = row; }
        }
        if (what == 0) { return most; }
        return what - 10 < best.size() ? best.get(what - 10) : NONE;
    }

    int game(int wind, int what) {
        if (not(wind, -1, 1) || not(what, 0, 1)) { return OUTSIDE; }
        if (noMoor()) { return STATE; }
        List<Integer> left = new ArrayList<>();
        for (int c = 0; c < s.feed.length; c++) { left.add(c); }
        int[] told = play(s, left, wind, true);
        return what == 0 ? 500 + told[0] : told[1];
    }

    /** What is the first one's less the other one's, from here on; and the least covert as good. */
    private static int[] play(State s, List<Integer> left, int wind, boolean firstOne) {
        int[] best = null;
        for (Integer c : left) {
            State t = s.copy();
            t.drive(c, wind);
            int own = t.sport - s.sport;
            List<Integer> rest = new ArrayList<>(left);
            rest.remove(c);
            int lead = (firstOne ? own : -own) + (rest.isEmpty() ? 0 : play(t, rest, wind, !firstOne)[0]);
            if (best == null || (firstOne ? lead > best[0] : lead < best[0])) { best = new int[] {lead, c}; }
        }
        return best;
    }

    int see(int laugh, int wind, int peg) {
        if (noLaugh(laugh) || peg != NONE && noPeg(peg)) { return UNKNOWN; }
        if (not(wind, -1, 1)) { return OUTSIDE; }
        if (s.seen.size() == 6) { return FULL; }
        s.seen.add(new int[] {laugh, wind, peg});
        return s.seen.size();
    }

    int forget() {
        int n = s.seen.size();
        s.seen.clear();
        return n;
    }

    private long seed;

    private int draw(int n) {
        seed = Math.floorMod(1103515245L * seed + 12345L, 1L << 31);
        return (int) (seed / 65536 % n);
    }

    int seasons(int times, int first, int what) {
        if (not(times, 1, 60) || first < 0 || not(what, 0, 2)) { return OUTSIDE; }
        if (noMoor()) { return STATE; }
        State t = s.copy();
        seed = first;
        for (int i = 0; i < times; i++) {
            int covert = draw(t.feed.length);
            int wind = draw(3) - 1;
            t.drive(covert, wind);
            if (draw(4) == 0) {
                t.birds.stream().filter(b -> b.covert == NONE).findFirst().ifPresent(b -> b.covert = covert);
            }
        }
        if (what == 0) { return t.sport - s.sport; }
        return what == 1 ? (int) t.birds.stream().filter(b -> b.covert != NONE).count() : (int) seed;
    }

    int image() {
        if (noMoor()) { return STATE; }
        image = s.copy();
        return image.drives;
    }

    int restore() {
        if (image == null) { return STATE; }
        s = image.copy();
        return s.drives;
    }

    int count(int what) {
        switch (what) {
            case 0: return s.reach.length;
            case 1: return s.feed.length;
            case 2: return s.birds.size();
            case 3: return (int) s.birds.stream().filter(b -> b.covert != NONE).count();
            case 4: return Arrays.stream(s.bag).sum();
            case 5: return s.sport;
            case 6: return s.drives;
            case 7: return Arrays.stream(s.feed).sum();
            case 8: return Arrays.stream(s.reach).sum();
            case 9: return s.seen.size();
            case 10: return page.length();
            case 11: return read;
            case 12: return stood;
            default: return OUTSIDE;
        }
    }

    long digest() {
        List<Integer> told = new ArrayList<>();
        for (int p = 0; p < s.reach.length; p++) { told.addAll(List.of(peg(p, 0), peg(p, 1))); }
        for (int c = 0; c < s.feed.length; c++) { told.addAll(List.of(covert(c, 0), covert(c, 1))); }
        for (int l = 0; l < s.birds.size(); l++) {
            for (int what = 0; what <= 6; what++) { told.add(laugh(l, what)); }
            told.addAll(List.of(over(l, -1), over(l, 0), over(l, 1)));
        }
        for (int wind = -1; wind <= 1 && !noMoor(); wind++) {
            told.add(order(wind, 0));
            for (int what = 10; what <= 13; what++) { told.add(order(wind, what)); }
            told.addAll(List.of(game(wind, 0), game(wind, 1)));
        }
        page.chars().forEach(told::add);
        for (int what = 0; what <= 12; what++) { told.add(count(what)); }
        long h = 1231;
        for (int t : told) { h = 31 * h + t; }
        return h;
    }
}
