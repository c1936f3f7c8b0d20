/**
 * A moor of laughs and what is driven on it. The words in capitals are those of DOC.md, which says
 * what each call of the face answers.
 */
public final class LaughDrive {
    public static final int NONE = -1, UNKNOWN = -101, OUTSIDE = -102, STATE = -103, FULL = -104;

    private static final int MOST_LETTERS = 40;
    private static final int LEAST_OF_EACH = 2;
    private static final int MOST_PEGS = 6;
    private static final int MOST_COVERTS = 4;
    private static final int MOST_LAUGHS = 6;
    private static final int MOST_SEEN = 6;
    private static final int MOST_DRIVES = 999;
    private static final int MOST_STANDS = 20;
    private static final int MOST_TIMES = 60;
    private static final int LEAST_WIND = -1;
    private static final int MOST_WIND = 1;
    private static final int FIRST_OF_ROW = 10;
    private static final int GAME_MORE = 500;
    private static final int LAUGH_WHATS = 7;
    private static final int COUNT_WHATS = 13;

    /** The KINDS are numbered by the places of their letters here. */
    private static final String KIND_LETTERS = "ltgck";
    private static final int LAUGH = 0, TITTER = 1, GUFFAW = 2, CHUCKLE = 3, COCK = 4;

    private final Page page = new Page();
    private final Plans plans = new Plans();
    private final Moor now = plans.moor;
    private final Moor kept = new Moor();
    private boolean imageKept;
    private int moorsRead;
    private int standsDone;

    public LaughDrive() {
    }

    // ---- the moor

    public int letter(int code) {
        if (code < 32 || code > 126) {
            return OUTSIDE;
        }
        return page.isFull() ? FULL : page.add(code);
    }

    public int blank() {
        return page.clear();
    }

    public int fault() {
        return page.faultPlace();
    }

    public int moor() {
        if (!page.readInto(now)) {
            return STATE;
        }
        page.clear();
        imageKept = false;
        moorsRead++;
        return now.laughs;
    }

    // ---- pegs, coverts, laughs

    public int peg(int peg, int what) {
        if (!now.hasPeg(peg)) {
            return UNKNOWN;
        }
        switch (what) {
            case 0: return now.reach.at(peg);
            case 1: return now.bag.at(peg);
            default: return OUTSIDE;
        }
    }

    public int covert(int covert, int what) {
        if (!now.hasCovert(covert)) {
            return UNKNOWN;
        }
        switch (what) {
            case 0: return now.feed.at(covert);
            case 1: return now.laughsIn(now.places, covert);
            default: return OUTSIDE;
        }
    }

    public int laugh(int laugh, int what) {
        if (!now.hasLaugh(laugh)) {
            return UNKNOWN;
        }
        switch (what) {
            case 0: return now.kind.at(laugh);
            case 1: return now.placeOf(laugh);
            case 2: return now.high.at(laugh);
            case 3: return now.heightFrom(laugh, now.placeOf(laugh));
            case 4: return now.likely(laugh);
            case 5: return now.covertsPossible(laugh);
            case 6: return now.hear(laugh);
            default: return OUTSIDE;
        }
    }

    public int as(int laugh, int kind) {
        if (!now.hasLaugh(laugh)) {
            return UNKNOWN;
        }
        if (kind < LAUGH || kind > COCK) {
            return OUTSIDE;
        }
        return isSuch(now.kind.at(laugh), kind) ? laugh : NONE;
    }

    public int over(int laugh, int wind) {
        if (!now.hasLaugh(laugh)) {
            return UNKNOWN;
        }
        return isWind(wind) ? now.pegFrom(laugh, now.placeOf(laugh), wind) : OUTSIDE;
    }

    // ---- what is done

    public int drive(int covert, int wind) {
        if (!now.hasCovert(covert)) {
            return UNKNOWN;
        }
        if (!isWind(wind)) {
            return OUTSIDE;
        }
        return now.drives < MOST_DRIVES ? now.driveNow(covert, wind) : FULL;
    }

    public int put(int laugh, int covert) {
        if (!now.hasLaugh(laugh) || !now.hasCovert(covert)) {
            return UNKNOWN;
        }
        int before = now.placeOf(laugh);
        now.places = withPlace(now.places, laugh, covert);
        return before;
    }

    public int feed(int covert, int feed) {
        return now.hasCovert(covert) ? changeDigit(now.feed, covert, feed) : UNKNOWN;
    }

    public int arm(int peg, int reach) {
        return now.hasPeg(peg) ? changeDigit(now.reach, peg, reach) : UNKNOWN;
    }

    public int rear(int laugh, int high) {
        return now.hasLaugh(laugh) ? changeDigit(now.high, laugh, high) : UNKNOWN;
    }

    // ---- what would be

    public int stands(int covert, int wind, int what) {
        if (!now.hasCovert(covert)) {
            return UNKNOWN;
        }
        if (!isWind(wind) || !isHowGreatOrOfRow(what, MOST_PEGS)) {
            return OUTSIDE;
        }
        if (standsDone >= MOST_STANDS) {
            return STATE;
        }
        standsDone++;
        plans.findStands(covert, wind);
        return what == 0 ? plans.standsSport() : plans.standsPeg(what - FIRST_OF_ROW);
    }

    public int order(int wind, int what) {
        if (!isWind(wind) || !isHowGreatOrOfRow(what, MOST_COVERTS)) {
            return OUTSIDE;
        }
        if (!now.isThere()) {
            return STATE;
        }
        plans.findOrder(wind);
        return what == 0 ? plans.orderSport : plans.orderCovert(what - FIRST_OF_ROW);
    }

    public int game(int wind, int what) {
        if (!isWind(wind) || what < 0 || what > 1) {
            return OUTSIDE;
        }
        if (!now.isThere()) {
            return STATE;
        }
        plans.findGame(wind);
        return what == 0 ? plans.gameLead + GAME_MORE : plans.gameCovert;
    }

    // ---- what is seen

    public int see(int laugh, int wind, int peg) {
        if (!now.hasLaugh(laugh) || peg != NONE && !now.hasPeg(peg)) {
            return UNKNOWN;
        }
        if (!isWind(wind)) {
            return OUTSIDE;
        }
        return now.seen.isFull() ? FULL : now.seen.add(laugh, wind, peg);
    }

    public int forget() {
        return now.seen.clear();
    }

    public int seasons(int times, int seed, int what) {
        if (times < 1 || times > MOST_TIMES || seed < 0 || what < 0 || what > 2) {
            return OUTSIDE;
        }
        if (!now.isThere()) {
            return STATE;
        }
        plans.passSeasons(times, seed);
        switch (what) {
            case 0: return plans.seasonsSport;
            case 1: return now.inCoverts(plans.seasonsPlaces);
            default: return (int) plans.seed;
        }
    }

    // ---- what is told of all

    public int image() {
        if (!now.isThere()) {
            return STATE;
        }
        kept.takeFrom(now);
        imageKept = true;
        return kept.drives;
    }

    public int restore() {
        if (!imageKept) {
            return STATE;
        }
        now.takeFrom(kept);
        return now.drives;
    }

    public int count(int what) {
        switch (what) {
            case 0: return now.pegs;
            case 1: return now.coverts;
            case 2: return now.laughs;
            case 3: return now.inCoverts(now.places);
            case 4: return now.bag.sum(now.pegs);
            case 5: return now.sport;
            case 6: return now.drives;
            case 7: return now.feed.sum(now.coverts);
            case 8: return now.reach.sum(now.pegs);
            case 9: return now.seen.count;
            case 10: return page.length;
            case 11: return moorsRead;
            case 12: return standsDone;
            default: return OUTSIDE;
        }
    }

    public long digest() {
        long h = 1231;
        for (int peg = 0; peg < now.pegs; peg++) {
            h = 31 * h + peg(peg, 0);
            h = 31 * h + peg(peg, 1);
        }
        for (int covert = 0; covert < now.coverts; covert++) {
            h = 31 * h + covert(covert, 0);
            h = 31 * h + covert(covert, 1);
        }
        for (int laugh = 0; laugh < now.laughs; laugh++) {
            for (int what = 0; what < LAUGH_WHATS; what++) {
                h = 31 * h + laugh(laugh, what);
            }
            for (int wind = LEAST_WIND; wind <= MOST_WIND; wind++) {
                h = 31 * h + over(laugh, wind);
            }
        }
        for (int wind = LEAST_WIND; now.isThere() && wind <= MOST_WIND; wind++) {
            // As order() and game() tell it, but each is found once only.
            plans.findOrder(wind);
            h = 31 * h + plans.orderSport;
            for (int turn = 0; turn < MOST_COVERTS; turn++) {
                h = 31 * h + plans.orderCovert(turn);
            }
            plans.findGame(wind);
            h = 31 * h + plans.gameLead + GAME_MORE;
            h = 31 * h + plans.gameCovert;
        }
        for (int place = 0; place < page.length; place++) {
            h = 31 * h + page.codes.at(place);
        }
        for (int what = 0; what < COUNT_WHATS; what++) {
            h = 31 * h + count(what);
        }
        return h;
    }

    private static boolean isWind(int wind) {
        return wind >= LEAST_WIND && wind <= MOST_WIND;
    }

    private static boolean isHowGreatOrOfRow(int what, int rowLength) {
        return what == 0 || what >= FIRST_OF_ROW && what < FIRST_OF_ROW + rowLength;
    }

    private static int kindOf(int code) {
        return KIND_LETTERS.indexOf((char) code);
    }

    private static boolean isSuch(int kind, int asked) {
        return asked == LAUGH || asked == kind || asked == GUFFAW && kind == COCK;
    }

    private static int changeDigit(Row row, int place, int digit) {
        if (digit < 0 || digit > 9 || row == null) {
            return OUTSIDE;
        }
        int before = row.at(place);
        row.set(place, digit);
        return before;
    }

    /*
     * Where all LAUGHS are is one number, three bits for each (the COVERT and 1; 0: in none), so that
     * what would be is tried on a copy without an object made.
     */

    private static int placeIn(int places, int laugh) {
        return (places >> 3 * laugh & 7) - 1;
    }

    private static int withPlace(int places, int laugh, int covert) {
        int shift = 3 * laugh;
        return places & ~(7 << shift) | covert + 1 << shift;
    }

    /** A row of numbers that no place can be wrong for: outside it holds 0 and keeps nothing. */
    private static final class Row {
        private final int[] cells;

        Row(int length) {
            cells = new int[length > 0 ? length : 0];
        }

        int at(int place) {
            return place >= 0 && place < cells.length ? cells[place] : 0;
        }

        void set(int place, int number) {
            if (place >= 0 && place < cells.length) {
                cells[place] = number;
            }
        }

        int sum(int length) {
            int all = 0;
            for (int place = 0; place < length && place < cells.length; place++) {
                all += cells[place];
            }
            return all;
        }

        void clear() {
            for (int place = 0; place < cells.length; place++) {
                cells[place] = 0;
            }
        }

        void takeFrom(Row other) {
            if (other == null) {
                return;
            }
            for (int place = 0; place < cells.length; place++) {
                cells[place] = other.at(place);
            }
        }
    }

    private static final class Page {
        final Row codes = new Row(MOST_LETTERS);
        int length;
        private final Reading reading = new Reading();

        boolean isFull() {
            return length >= MOST_LETTERS;
        }

        int add(int code) {
            codes.set(length, code);
            length++;
            return length;
        }

        int clear() {
            int had = length;
            length = 0;
            return had;
        }

        int faultPlace() {
            reading.begin();
            for (int place = 0; place < length; place++) {
                if (!reading.takes(codes.at(place))) {
                    return place;
                }
            }
            return length;
        }

        /** Makes this the MOOR that THE PAGE tells; nothing is done, and false told, if that is none. */
        boolean readInto(Moor moor) {
            if (moor == null || faultPlace() < length || !reading.isWhole()) {
                return false;
            }
            moor.begin(reading.pegs, reading.coverts, reading.laughs);
            int covertsAt = moor.pegs + 1;
            int laughsAt = covertsAt + moor.coverts + 1;
            for (int peg = 0; peg < moor.pegs; peg++) {
                moor.reach.set(peg, digitAt(peg));
            }
            for (int covert = 0; covert < moor.coverts; covert++) {
                moor.feed.set(covert, digitAt(covertsAt + covert));
            }
            for (int laugh = 0; laugh < moor.laughs; laugh++) {
                int at = laughsAt + 4 * laugh;
                moor.kind.set(laugh, kindOf(codes.at(at)));
                moor.places = withPlace(moor.places, laugh, digitAt(at + 1));
                moor.high.set(laugh, digitAt(at + 2));
            }
            return true;
        }

        private int digitAt(int place) {
            return codes.at(place) - '0';
        }
    }

    /** How far a text is a MOOR: it takes letter by letter as long as some MOOR goes on like that. */
    private static final class Reading {
        private static final int PEGS = 0, COVERTS = 1, KIND = 2, PLACE = 3, HIGH = 4, BEHIND = 5;

        int pegs;
        int coverts;
        int laughs;
        private int part;

        void begin() {
            pegs = 0;
            coverts = 0;
            laughs = 0;
            part = PEGS;
        }

        boolean isWhole() {
            return part == BEHIND && laughs >= LEAST_OF_EACH;
        }

        boolean takes(int code) {
            switch (part) {
                case PEGS: return takesPeg(code);
                case COVERTS: return takesCovert(code);
                case KIND: return goesOn(kindOf(code) != NONE, PLACE);
                case PLACE: return goesOn(isDigit(code) && code - '0' < coverts, HIGH);
                case HIGH: return takesHigh(code);
                default: return goesOn(code == ',' && laughs < MOST_LAUGHS, KIND);
            }
        }

        private boolean takesPeg(int code) {
            if (isDigit(code) && pegs < MOST_PEGS) {
                pegs++;
                return true;
            }
            return goesOn(code == ';' && pegs >= LEAST_OF_EACH, COVERTS);
        }

        private boolean takesCovert(int code) {
            if (isDigit(code) && coverts < MOST_COVERTS) {
                coverts++;
                return true;
            }
            return goesOn(code == ';' && coverts >= LEAST_OF_EACH, KIND);
        }

        private boolean takesHigh(int code) {
            if (isDigit(code)) {
                laughs++;
            }
            return goesOn(isDigit(code), BEHIND);
        }

        private boolean goesOn(boolean fits, int next) {
            if (fits) {
                part = next;
            }
            return fits;
        }

        private static boolean isDigit(int code) {
            return code >= '0' && code <= '9';
        }
    }

    /** THE MOOR, or what an IMAGE keeps of it; with no LAUGHS it is none. */
    private static final class Moor {
        int pegs;
        int coverts;
        int laughs;
        final Row reach = new Row(MOST_PEGS);
        final Row bag = new Row(MOST_PEGS);
        final Row feed = new Row(MOST_COVERTS);
        final Row kind = new Row(MOST_LAUGHS);
        final Row high = new Row(MOST_LAUGHS);
        final Seen seen = new Seen();
        int places;
        int sport;
        int drives;

        void begin(int newPegs, int newCoverts, int newLaughs) {
            pegs = newPegs;
            coverts = newCoverts;
            laughs = newLaughs;
            bag.clear();
            seen.clear();
            places = 0;
            sport = 0;
            drives = 0;
        }

        /** Of one and the same MOOR, which has as many of all, and the same KINDS, at any time. */
        void takeFrom(Moor other) {
            if (other == null) {
                return;
            }
            reach.takeFrom(other.reach);
            bag.takeFrom(other.bag);
            feed.takeFrom(other.feed);
            high.takeFrom(other.high);
            seen.takeFrom(other.seen);
            places = other.places;
            sport = other.sport;
            drives = other.drives;
        }

        boolean isThere() {
            return laughs > 0;
        }

        boolean hasPeg(int peg) {
            return peg >= 0 && peg < pegs;
        }

        boolean hasCovert(int covert) {
            return covert >= 0 && covert < coverts;
        }

        boolean hasLaugh(int laugh) {
            return laugh >= 0 && laugh < laughs;
        }

        int placeOf(int laugh) {
            return placeIn(places, laugh);
        }

        /** The LAUGHS there, as bits. */
        int laughsIn(int somePlaces, int covert) {
            int bits = 0;
            for (int laugh = 0; laugh < laughs; laugh++) {
                if (placeIn(somePlaces, laugh) == covert) {
                    bits |= 1 << laugh;
                }
            }
            return bits;
        }

        int inCoverts(int somePlaces) {
            int number = 0;
            for (int laugh = 0; laugh < laughs; laugh++) {
                if (placeIn(somePlaces, laugh) != NONE) {
                    number++;
                }
            }
            return number;
        }

        int leastInNone(int somePlaces) {
            for (int laugh = 0; laugh < laughs; laugh++) {
                if (placeIn(somePlaces, laugh) == NONE) {
                    return laugh;
                }
            }
            return NONE;
        }

        /** The PEG that it flies over out of a COVERT (NONE: over none, or there is no such COVERT). */
        int pegFrom(int laugh, int covert, int wind) {
            if (!hasCovert(covert)) {
                return NONE;
            }
            int peg = covert + wind + further(kind.at(laugh));
            return hasPeg(peg) ? peg : NONE;
        }

        private static int further(int kind) {
            switch (kind) {
                case GUFFAW: return 1;
                case COCK: return 2;
                default: return 0;
            }
        }

        /** Its HEIGHT out of a COVERT (NONE: there is no such COVERT). */
        int heightFrom(int laugh, int covert) {
            if (!hasCovert(covert)) {
                return NONE;
            }
            int plain = high.at(laugh) + feed.at(covert);
            switch (kind.at(laugh)) {
                case TITTER: return plain / 2;
                case GUFFAW: return plain + 3;
                case CHUCKLE: return 0;
                case COCK: return plain + 6;
                default: return plain;
            }
        }

        /** Which of the LAUGHS that get up (as bits) a PEG of such a REACH has (NONE: it has none). */
        int hadAt(int peg, int reachThere, int up, int covert, int wind) {
            int had = NONE;
            int greatest = 0;
            for (int laugh = 0; laugh < laughs; laugh++) {
                if ((up >> laugh & 1) != 0 && pegFrom(laugh, covert, wind) == peg) {
                    int height = heightFrom(laugh, covert);
                    if (height > greatest && height <= reachThere) {
                        had = laugh;
                        greatest = height;
                    }
                }
            }
            return had;
        }

        int placesAfter(int somePlaces, int covert, int wind) {
            int up = laughsIn(somePlaces, covert);
            int next = covert + 1 < coverts ? covert + 1 : 0;
            int after = somePlaces;
            for (int laugh = 0; laugh < laughs; laugh++) {
                if ((up >> laugh & 1) != 0) {
                    after = withPlace(after, laugh, next);
                }
            }
            for (int peg = 0; up != 0 && peg < pegs; peg++) {
                int had = hadAt(peg, reach.at(peg), up, covert, wind);
                after = had == NONE ? after : withPlace(after, had, NONE);
            }
            return after;
        }

        private boolean isHad(int laugh, int before, int after) {
            return placeIn(before, laugh) != NONE && placeIn(after, laugh) == NONE;
        }

        /** SPORT by the DRIVE between: it alone takes LAUGHS out of COVERTS. */
        int sportOf(int before, int after) {
            int all = 0;
            for (int laugh = 0; laugh < laughs; laugh++) {
                if (isHad(laugh, before, after)) {
                    all += heightFrom(laugh, placeIn(before, laugh));
                }
            }
            return all;
        }

        int driveNow(int covert, int wind) {
            int after = placesAfter(places, covert, wind);
            int number = 0;
            for (int laugh = 0; laugh < laughs; laugh++) {
                if (isHad(laugh, places, after)) {
                    int peg = pegFrom(laugh, covert, wind);
                    bag.set(peg, bag.at(peg) + 1);
                    number++;
                }
            }
            sport += sportOf(places, after);
            places = after;
            drives++;
            return number;
        }

        int likely(int laugh) {
            int covert = placeOf(laugh);
            int up = laughsIn(places, covert);
            int winds = 0;
            for (int wind = LEAST_WIND; wind <= MOST_WIND; wind++) {
                int peg = pegFrom(laugh, covert, wind);
                if (peg != NONE && hadAt(peg, reach.at(peg), up, covert, wind) == laugh) {
                    winds++;
                }
            }
            return winds;
        }

        /** Wherever it is: in which COVERTS it can be by what is SEEN alone. */
        int covertsPossible(int laugh) {
            int bits = 0;
            for (int covert = 0; covert < coverts; covert++) {
                if (isAsSeen(laugh, covert)) {
                    bits |= 1 << covert;
                }
            }
            return bits;
        }

        private boolean isAsSeen(int laugh, int covert) {
            boolean all = true;
            for (int entry = 0; entry < seen.count; entry++) {
                if (seen.laugh.at(entry) == laugh) {
                    all &= pegFrom(laugh, covert, seen.wind.at(entry)) == seen.peg.at(entry);
                }
            }
            return all;
        }

        int hear(int laugh) {
            int possible = covertsPossible(laugh);
            int best = NONE;
            int fewest = MOST_COVERTS + 1;
            for (int wind = LEAST_WIND; possible != 0 && wind <= MOST_WIND; wind++) {
                int left = leftAtWorst(laugh, wind, possible);
                if (left < fewest) {
                    fewest = left;
                    best = wind + 1;
                }
            }
            return best;
        }

        private int leftAtWorst(int laugh, int wind, int possible) {
            int most = 0;
            for (int covert = 0; covert < coverts; covert++) {
                if ((possible >> covert & 1) != 0) {
                    most = Math.max(most, leftBy(laugh, wind, possible, pegFrom(laugh, covert, wind)));
                }
            }
            return most;
        }

        private int leftBy(int laugh, int wind, int possible, int peg) {
            int left = 0;
            for (int covert = 0; covert < coverts; covert++) {
                if ((possible >> covert & 1) != 0 && pegFrom(laugh, covert, wind) == peg) {
                    left++;
                }
            }
            return left;
        }
    }

    private static final class Seen {
        int count;
        final Row laugh = new Row(MOST_SEEN);
        final Row wind = new Row(MOST_SEEN);
        final Row peg = new Row(MOST_SEEN);

        boolean isFull() {
            return count >= MOST_SEEN;
        }

        int add(int seenLaugh, int seenWind, int seenPeg) {
            laugh.set(count, seenLaugh);
            wind.set(count, seenWind);
            peg.set(count, seenPeg);
            count++;
            return count;
        }

        int clear() {
            int had = count;
            count = 0;
            return had;
        }

        void takeFrom(Seen other) {
            if (other == null) {
                return;
            }
            count = other.count;
            laugh.takeFrom(other.laugh);
            wind.takeFrom(other.wind);
            peg.takeFrom(other.peg);
        }
    }

    /** What would be on THE MOOR as it is: STANDS, ORDER, GAME, SEASONS; each is found first, and told then. */
    private static final class Plans {
        private static final int TOGETHER = 1, AGAINST = -1;

        /** It is made here, so that no constructor hands on a part of what it makes. */
        final Moor moor = new Moor();
        int orderSport;
        int gameLead;
        int gameCovert;
        int seasonsSport;
        /** Where the LAUGHS are when SEASONS have passed. */
        int seasonsPlaces;
        long seed;
        /** By each turn the COVERT that was found best to be driven then. */
        private final Row chosen = new Row(MOST_COVERTS);
        /** By each set of REACHES (bits) at the first PEGS: what SPORT those behind add, which REACH is next. */
        private final Row worths = new Row(1 << MOST_PEGS);
        private final Row nexts = new Row(1 << MOST_PEGS);

        void findStands(int covert, int wind) {
            int all = (1 << moor.pegs) - 1;
            worths.set(all, 0);
            for (int given = all - 1; given >= 0; given--) {
                findNext(given, covert, wind);
            }
        }

        private void findNext(int given, int covert, int wind) {
            int peg = Integer.bitCount(given);
            int most = NONE;
            for (int from = 0; from < moor.pegs; from++) {
                if ((given >> from & 1) == 0) {
                    int worth = sportAt(peg, moor.reach.at(from), covert, wind) + worths.at(given | 1 << from);
                    if (worth > most) {
                        most = worth;
                        nexts.set(given, from);
                    }
                }
            }
            worths.set(given, most);
        }

        private int sportAt(int peg, int reachThere, int covert, int wind) {
            int had = moor.hadAt(peg, reachThere, moor.laughsIn(moor.places, covert), covert, wind);
            return had == NONE ? 0 : moor.heightFrom(had, covert);
        }

        int standsSport() {
            return worths.at(0);
        }

        int standsPeg(int peg) {
            int given = 0;
            for (int before = 0; before < peg && before < moor.pegs; before++) {
                given |= 1 << nexts.at(given);
            }
            return moor.hasPeg(peg) ? nexts.at(given) : NONE;
        }

        void findOrder(int wind) {
            int places = moor.places;
            int driven = 0;
            orderSport = 0;
            for (int turn = 0; turn < moor.coverts; turn++) {
                worthOfRest(this, places, driven, wind, TOGETHER, turn);
                int covert = chosen.at(turn);
                int after = moor.placesAfter(places, covert, wind);
                orderSport += moor.sportOf(places, after);
                places = after;
                driven |= 1 << covert;
            }
        }

        int orderCovert(int turn) {
            return moor.hasCovert(turn) ? chosen.at(turn) : NONE;
        }

        void findGame(int wind) {
            gameLead = worthOfRest(this, moor.places, 0, wind, AGAINST, 0);
            gameCovert = chosen.at(0);
        }

        /** What all COVERTS that are not driven yet come to for him whose turn it is. */
        private static int worthOfRest(Plans plans, int places, int driven, int wind, int share, int turn) {
            if (plans == null || turn >= MOST_COVERTS) {
                return 0;
            }
            Moor moor = plans.moor;
            int most = 0;
            boolean any = false;
            for (int covert = 0; covert < moor.coverts; covert++) {
                if ((driven >> covert & 1) == 0) {
                    int after = moor.placesAfter(places, covert, wind);
                    int rest = worthOfRest(plans, after, driven | 1 << covert, wind, share, turn + 1);
                    int worth = moor.sportOf(places, after) + share * rest;
                    if (!any || worth > most) {
                        any = true;
                        most = worth;
                        plans.chosen.set(turn, covert);
                    }
                }
            }
            return most;
        }

        void passSeasons(int times, int firstSeed) {
            seasonsSport = 0;
            seasonsPlaces = moor.places;
            seed = firstSeed;
            for (int time = 0; time < times; time++) {
                passSeason();
            }
        }

        private void passSeason() {
            int covert = draw(moor.coverts);
            int wind = draw(3) - 1;
            int after = moor.placesAfter(seasonsPlaces, covert, wind);
            seasonsSport += moor.sportOf(seasonsPlaces, after);
            int back = moor.leastInNone(after);
            seasonsPlaces = draw(4) == 0 && back != NONE ? withPlace(after, back, covert) : after;
        }

        private int draw(int below) {
            seed = (1103515245L * seed + 12345) & 0x7fffffffL;
            return below > 0 ? (int) (seed / 65536 % below) : 0;
        }
    }
}
