import java.util.Arrays;

/**
 * Soup at nine stops: towns, evenings, books and lists told as texts on a tape, and what can be asked of them.
 * The numbered promises that this class keeps stand in the project's document, DOC.md.
 */
public final class SoupNine {
    public static final int NONE = -1;

    private static final int NOT_THERE = -2;
    private static final int IMAGES = 3;
    private static final int SORTS = 4;
    private static final int PLACES_OF_A_SORT = 2;
    private static final int TAPE = 600;
    private static final int STOPS = 9;
    private static final int DEEDS = 40;
    private static final int NIGHTS = 10;
    private static final int THINGS = 3;
    private static final int SHOES = 6;
    private static final int FEET = 8;
    private static final int HIDES = 8;
    private static final int LAST_MINUTE = 300;
    private static final int SOUPS = 100;
    private static final int WEEK = 7;

    private final Told now = new Told();
    private final Told[] images = new Told[IMAGES];
    private final Reader reader = new Reader(now.tape);
    private final Walk walk = new Walk();
    private final Bowls bowls = new Bowls();
    private final Routes routes = new Routes();
    private final Search search = new Search();
    private final int[] lots = new int[Book.lotRow(NIGHTS + 1)];

    public SoupNine() {
    }

    // ---- the tape and its texts

    public int feed(int a, int b, int c, int d, int e) {
        if (now.length > TAPE - 20) {
            return NONE;
        }
        now.addBytes(a);
        now.addBytes(b);
        now.addBytes(c);
        now.addBytes(d);
        now.addBytes(e);
        return now.length;
    }

    public int end(int n) {
        if (n < 0 || n > now.length) {
            return NONE;
        }
        now.length = n;
        return n;
    }

    public int text(int sort, int at) {
        int taken = now.length;
        now.length = 0;
        now.fault = 0;
        now.place = NONE;
        int where = placeFor(sort, at);
        if (where == NOT_THERE) {
            return NOT_THERE;
        }
        reader.readText(sort, taken);
        now.fault = reader.fault;
        now.place = reader.place;
        if (reader.fault != 0) {
            return NONE;
        }
        keepDraft(sort, where);
        return where;
    }

    private int placeFor(int sort, int at) {
        if (sort < 0 || sort >= SORTS) {
            return NOT_THERE;
        }
        int have = now.counts[sort];
        if (at == NONE) {
            return have < PLACES_OF_A_SORT ? have : NOT_THERE;
        }
        return at >= 0 && at < have ? at : NOT_THERE;
    }

    private void keepDraft(int sort, int where) {
        switch (sort) {
            case 0:
                now.towns[where].copyFrom(reader.town);
                break;
            case 1:
                now.evenings[where].copyFrom(reader.evening);
                break;
            case 2:
                now.books[where].copyFrom(reader.book);
                break;
            default:
                now.sheets[where].copyFrom(reader.sheet);
                break;
        }
        now.counts[sort] = Math.max(now.counts[sort], where + 1);
        forgetAll();
    }

    // what was worked out from towns and lists no longer holds once these may be others
    private void forgetAll() {
        bowls.forget();
        routes.forget();
        search.forget();
    }

    public int fault(int what) {
        if (what == 0) {
            return now.fault;
        }
        return what == 1 ? now.place : NONE;
    }

    public int count(int sort) {
        return sort < 0 || sort >= SORTS ? NOT_THERE : now.counts[sort];
    }

    public boolean image(int k) {
        if (k < 0 || k >= IMAGES) {
            return false;
        }
        Told kept = images[k];
        if (kept == null) {
            kept = new Told();
            images[k] = kept;
        }
        kept.copyFrom(now);
        return true;
    }

    public boolean again(int k) {
        if (k < 0 || k >= IMAGES) {
            return false;
        }
        Told kept = images[k];
        if (kept == null) {
            return false;
        }
        now.copyFrom(kept);
        forgetAll();
        return true;
    }

    // ---- what was told, and evenings deed by deed

    public int town(int town, int what) {
        Town t = now.townAt(town);
        return t == null ? NOT_THERE : t.detail(what);
    }

    public int deed(int evening, int k, int what) {
        Evening e = now.eveningAt(evening);
        return e == null ? NOT_THERE : e.detail(k, what);
    }

    public int till(int town, int evening) {
        Town t = now.townAt(town);
        Evening e = now.eveningAt(evening);
        if (t == null || e == null) {
            return NONE;
        }
        walk.begin(t);
        return walk.follow(t, e, e.deeds);
    }

    public int state(int town, int evening, int n, int what) {
        Town t = now.townAt(town);
        Evening e = now.eveningAt(evening);
        if (t == null || e == null || n < 0 || n > e.deeds) {
            return NOT_THERE;
        }
        walk.begin(t);
        return walk.follow(t, e, n) < n ? NOT_THERE : walk.detail(t, what);
    }

    public int drawn(int town, int seed, int n, int what) {
        Town t = now.townAt(town);
        if (t == null || n < 0 || n > 60) {
            return NOT_THERE;
        }
        walk.begin(t);
        walk.draw(t, seed, n);
        return walk.detail(t, what);
    }

    // ---- bowls by all that may come

    public int give(int town, int stop, int s, int d) {
        Town t = now.townAt(town);
        if (t == null || !isSoup(s) || !t.mayCome(stop, d)) {
            return NONE;
        }
        return bowls.bestGift(t, stop, s, d);
    }

    public long mean(int town, int stop, int s, boolean under) {
        Town t = now.townAt(town);
        if (t == null || !isSoup(s) || stop < 0 || stop > t.stops) {
            return NONE;
        }
        return bowls.meanFrom(t, stop, s, under);
    }

    public int safe(int town) {
        Town t = now.townAt(town);
        return t == null ? NONE : t.mostInAll();
    }

    public long tells(int town, int s, int d, boolean under) {
        Town t = now.townAt(town);
        if (t == null || !isSoup(s) || !t.mayCome(0, d)) {
            return NONE;
        }
        return bowls.meanOnceTold(t, s, d, under);
    }

    public long lack(int town, int s, boolean under) {
        Town t = now.townAt(town);
        return t == null || !isSoup(s) ? NONE : bowls.chanceOfMore(t, s, under);
    }

    private static boolean isSoup(int s) {
        return s >= 0 && s < SOUPS;
    }

    // ---- ways to drive

    public int way(int town, int k) {
        Town t = now.townAt(town);
        if (t == null) {
            return NONE;
        }
        routes.prepare(t);
        if (k == NONE) {
            return routes.wayPeople;
        }
        if (k == -2) {
            return routes.wayMinutes;
        }
        return k < 0 || k >= routes.wayLength ? NONE : routes.wayRow[k];
    }

    public int round(int town, int k) {
        Town t = now.townAt(town);
        if (t == null) {
            return NONE;
        }
        routes.prepare(t);
        if (k == NONE) {
            return routes.tour[routes.full];
        }
        return k < 0 || k >= t.stops ? NONE : routes.roundRow[k];
    }

    public int talks(int town) {
        Town t = now.townAt(town);
        if (t == null) {
            return NONE;
        }
        routes.prepare(t);
        return routes.talksAtFirst(t);
    }

    public int lost(int town, int stop) {
        Town t = now.townAt(town);
        if (t == null || !t.hasStop(stop)) {
            return NONE;
        }
        routes.prepare(t);
        return routes.wayPeople - routes.mostWarmWithout(t, stop);
    }

    public int depot(int town, boolean minutes) {
        Town t = now.townAt(town);
        if (t == null) {
            return NONE;
        }
        int best = 0;
        int fewest = t.minutesFromPlace(0);
        for (int place = 1; place < 100; place++) {
            int found = t.minutesFromPlace(place);
            if (found < fewest) {
                fewest = found;
                best = place;
            }
        }
        return minutes ? fewest : best;
    }

    public int vans(int town, boolean stops) {
        Town t = now.townAt(town);
        if (t == null) {
            return NONE;
        }
        routes.prepare(t);
        int first = routes.stopsOfFirstVan();
        return stops ? first : routes.homeLast(first);
    }

    public int trail(int town, int stop, boolean again) {
        Town t = now.townAt(town);
        return t == null || !t.hasStop(stop) ? NONE : t.trailFrom(stop, again);
    }

    public int chat(int town, boolean stops) {
        Town t = now.townAt(town);
        if (t == null) {
            return NONE;
        }
        routes.prepare(t);
        int talked = routes.stopsToTalkAt(t);
        return stops ? talked : routes.people[talked];
    }

    // ---- books

    public int book(int book, int k, int what) {
        Book b = now.bookAt(book);
        return b == null ? NONE : b.detail(k, what);
    }

    public int held(int book, int what) {
        Book b = now.bookAt(book);
        if (b == null) {
            return NOT_THERE;
        }
        switch (what) {
            case 0:
                return b.unlikeAheadOf(b.nights);
            case 1:
            case 2:
                return b.heldInAll(what == 2);
            case 3:
                return b.doorway();
            case 4:
            case 5:
                return b.doorwayDifference(what == 5);
            default:
                return NOT_THERE;
        }
    }

    public int bring(int book, int thing, int k) {
        Book b = now.bookAt(book);
        if (b == null || !isThing(thing) || k < 1 || k > b.nights) {
            return NONE;
        }
        return b.enoughOn(thing, k);
    }

    public int span(int book, int thing, boolean greatest) {
        Book b = now.bookAt(book);
        if (b == null || !isThing(thing) || b.nights == 0) {
            return NONE;
        }
        return b.enoughOn(thing, greatest ? b.nights : 1);
    }

    public long lot(int one, int other, boolean under) {
        Book first = now.bookAt(one);
        Book second = now.bookAt(other);
        return first == null || second == null ? NONE : first.chanceOfAsMany(second, lots, under);
    }

    public int like(int one, int other, int thing) {
        Book first = now.bookAt(one);
        Book second = now.bookAt(other);
        if (first == null || second == null || !isThing(thing)) {
            return NONE;
        }
        return first.couplesWith(second, thing);
    }

    private static boolean isThing(int thing) {
        return thing >= 0 && thing < THINGS;
    }

    // ---- lists

    public int list(int list, int what) {
        Sheet s = now.sheetAt(list);
        return s == null ? NONE : s.detail(what);
    }

    public int shod(int list, int k) {
        Sheet s = now.sheetAt(list);
        if (s == null) {
            return NONE;
        }
        search.prepare(s);
        if (k == NONE) {
            return search.need[0];
        }
        return k < 0 || k >= s.feet ? NONE : search.shoeRow[k];
    }

    public int look(int list, int k) {
        Sheet s = now.sheetAt(list);
        if (s == null) {
            return NONE;
        }
        search.prepare(s);
        if (search.oddsInAll == 0) {
            return NONE;
        }
        if (k == NONE || k == -2) {
            return (int) Fraction.part(search.walkedInAll, search.oddsInAll, k == -2);
        }
        return k < 0 || k >= s.hides ? NONE : search.hideRow[k];
    }

    // ---- worry, shared days, turns

    public long worry(int a, int q, int k, boolean under) {
        if (!isOfTen(a) || !isOfHundred(q) || k < 0 || k > 9) {
            return NONE;
        }
        return Fraction.share(unwell(q, k), wellButAway(a, q, k), under);
    }

    public int when(int a, int q, int c) {
        if (!isOfTen(a) || !isOfHundred(q) || !isOfTen(c)) {
            return NONE;
        }
        for (int k = 0; k <= 9; k++) {
            if (Fraction.reaches(unwell(q, k), wellButAway(a, q, k), c)) {
                return k;
            }
        }
        return NONE;
    }

    private static long unwell(int q, int k) {
        return q * Fraction.power(10, k);
    }

    private static long wellButAway(int a, int q, int k) {
        return (100 - q) * Fraction.power(10 - a, k);
    }

    public long sick(int q, int n, int a, int b, int s, boolean under) {
        if (!areSigns(q, n, a, b) || s < 0 || s > n) {
            return NONE;
        }
        return Fraction.share(q * shown(a, n, s), (100 - q) * shown(b, n, s), under);
    }

    public int call(int q, int n, int a, int b, int c) {
        if (!areSigns(q, n, a, b) || !isOfTen(c)) {
            return NONE;
        }
        for (int s = 0; s <= n; s++) {
            if (Fraction.reaches(q * shown(a, n, s), (100 - q) * shown(b, n, s), c)) {
                return s;
            }
        }
        return NONE;
    }

    private static boolean areSigns(int q, int n, int a, int b) {
        return isOfHundred(q) && n >= 1 && n <= 9 && isOfTen(a) && isOfTen(b);
    }

    // which signs are shown is alike for ill and well ones, so the number of choices falls out of the fraction
    private static long shown(int ofTen, int n, int s) {
        return Fraction.power(ofTen, s) * Fraction.power(10 - ofTen, n - s);
    }

    private static boolean isOfTen(int a) {
        return a >= 0 && a <= 10;
    }

    private static boolean isOfHundred(int q) {
        return q >= 0 && q <= 100;
    }

    public int shared(int van, int chapel, int n, int m, int what) {
        if (!areDays(van, n) || !areDays(chapel, m) || what < 0 || what > 3) {
            return NONE;
        }
        int best = vanDays(van, chapel, n, m);
        int other = lowestBits(chapel & ~best, m);
        switch (what) {
            case 0:
                return WEEK - Integer.bitCount(best | other);
            case 1:
                return Integer.bitCount(best & other);
            case 2:
                return best;
            default:
                return other;
        }
    }

    private static boolean areDays(int days, int times) {
        return days >= 0 && days < 1 << WEEK && times >= 0 && times <= WEEK;
    }

    // the chapel never needs a day that the van has: leaving it out leaves nobody's days and saves one of both
    private static int vanDays(int van, int chapel, int n, int m) {
        int best = 0;
        int most = NONE;
        for (int days = 0; days < 1 << WEEK; days++) {
            if ((days & ~van) == 0 && Integer.bitCount(days) <= n) {
                int covered = Integer.bitCount(days) + Math.min(m, Integer.bitCount(chapel & ~days));
                if (covered > most) {
                    most = covered;
                    best = days;
                }
            }
        }
        return best;
    }

    private static int lowestBits(int bits, int n) {
        int taken = 0;
        for (int day = 0; day < WEEK; day++) {
            if ((bits >> day & 1) == 1 && Integer.bitCount(taken) < n) {
                taken |= 1 << day;
            }
        }
        return taken;
    }

    public int pair(int n, int t, int v) {
        if (n < 2 || n > 12 || t < 0 || t > 99 || v < 0 || v >= n) {
            return NOT_THERE;
        }
        int ring = n % 2 == 0 ? n - 1 : n;
        if (v == ring) {
            return alone(ring, t);
        }
        int other = Math.floorMod(t - v, ring);
        if (other != v) {
            return other;
        }
        return ring == n ? NONE : ring;
    }

    private static int alone(int ring, int t) {
        for (int v = 0; v < ring; v++) {
            if (Math.floorMod(t - v, ring) == v) {
                return v;
            }
        }
        return NONE;
    }

    // ---- classes inside

    /** All that is told, which is also all that an image has. */
    private static final class Told {
        final byte[] tape = new byte[TAPE];
        int length;
        int fault;
        int place = NONE;
        final int[] counts = new int[SORTS];
        final Town[] towns = {new Town(), new Town()};
        final Evening[] evenings = {new Evening(), new Evening()};
        final Book[] books = {new Book(), new Book()};
        final Sheet[] sheets = {new Sheet(), new Sheet()};

        void addBytes(int number) {
            for (int shift = 24; shift >= 0 && length < TAPE; shift -= 8) {
                tape[length] = (byte) (number >>> shift);
                length++;
            }
        }

        void copyFrom(Told other) {
            System.arraycopy(other.tape, 0, tape, 0, TAPE);
            length = other.length;
            fault = other.fault;
            place = other.place;
            System.arraycopy(other.counts, 0, counts, 0, SORTS);
            for (int i = 0; i < PLACES_OF_A_SORT; i++) {
                towns[i].copyFrom(other.towns[i]);
                evenings[i].copyFrom(other.evenings[i]);
                books[i].copyFrom(other.books[i]);
                sheets[i].copyFrom(other.sheets[i]);
            }
        }

        Town townAt(int k) {
            return k < 0 || k >= counts[0] ? null : towns[k];
        }

        Evening eveningAt(int k) {
            return k < 0 || k >= counts[1] ? null : evenings[k];
        }

        Book bookAt(int k) {
            return k < 0 || k >= counts[2] ? null : books[k];
        }

        Sheet sheetAt(int k) {
            return k < 0 || k >= counts[3] ? null : sheets[k];
        }
    }

    /** A TOWN; of a place's number NONE is HOME. */
    private static final class Town {
        private static final int CROWDED = 1;
        private static final int EMPTY = 2;
        private static final int LAST = 3;

        int homeX;
        int homeY;
        int soup;
        int pace;
        int cold;
        int talk;
        int stops;
        final int[] kind = new int[STOPS];
        final int[] x = new int[STOPS];
        final int[] y = new int[STOPS];
        final int[] least = new int[STOPS];
        final int[] most = new int[STOPS];
        final int[] followers = new int[STOPS];
        final int[] follow = new int[STOPS];

        void clear() {
            homeX = 0;
            homeY = 0;
            soup = 60;
            pace = 2;
            cold = 60;
            talk = 9;
            stops = 0;
            for (int s = 0; s < STOPS; s++) {
                followers[s] = 0;
                follow[s] = NONE;
            }
        }

        void copyFrom(Town other) {
            homeX = other.homeX;
            homeY = other.homeY;
            soup = other.soup;
            pace = other.pace;
            cold = other.cold;
            talk = other.talk;
            stops = other.stops;
            System.arraycopy(other.kind, 0, kind, 0, STOPS);
            System.arraycopy(other.x, 0, x, 0, STOPS);
            System.arraycopy(other.y, 0, y, 0, STOPS);
            System.arraycopy(other.least, 0, least, 0, STOPS);
            System.arraycopy(other.most, 0, most, 0, STOPS);
            System.arraycopy(other.followers, 0, followers, 0, STOPS);
            System.arraycopy(other.follow, 0, follow, 0, STOPS);
        }

        void addStop(int ofKind, int[] numbers) {
            if (stops >= STOPS || numbers.length < 4) {
                return;
            }
            kind[stops] = ofKind;
            x[stops] = numbers[0];
            y[stops] = numbers[1];
            least[stops] = numbers[2];
            most[stops] = numbers[3];
            stops++;
        }

        void setFollow(int from, int to, int many) {
            if (from >= 0 && from < STOPS) {
                follow[from] = to;
                followers[from] = many;
            }
        }

        boolean hasStop(int s) {
            return s >= 0 && s < stops;
        }

        boolean mayCome(int s, int d) {
            return hasStop(s) && d >= least[s] && d <= most[s];
        }

        int middle(int s) {
            if (!hasStop(s)) {
                return 0;
            }
            if (kind[s] == CROWDED) {
                return most[s];
            }
            return kind[s] == EMPTY ? least[s] : (least[s] + most[s]) / 2;
        }

        int weight(int s) {
            return hasStop(s) && kind[s] == LAST ? 2 : 1;
        }

        int mostInAll() {
            int sum = 0;
            for (int s = 0; s < stops; s++) {
                sum += most[s];
            }
            return sum;
        }

        int minutes(int from, int to) {
            return pace * (Math.abs(columnOf(from) - columnOf(to)) + Math.abs(rowOf(from) - rowOf(to)));
        }

        private int columnOf(int s) {
            return hasStop(s) ? x[s] : homeX;
        }

        private int rowOf(int s) {
            return hasStop(s) ? y[s] : homeY;
        }

        int minutesFromPlace(int place) {
            int sum = 0;
            for (int s = 0; s < stops; s++) {
                sum += middle(s) * pace * (Math.abs(x[s] - place % 10) + Math.abs(y[s] - place / 10));
            }
            return sum;
        }

        int trailFrom(int stop, boolean comesAgain) {
            int been = 1 << stop;
            int at = follow[stop];
            for (int i = 0; i < STOPS && hasStop(at) && (been >> at & 1) == 0; i++) {
                been |= 1 << at;
                at = follow[at];
            }
            if (comesAgain) {
                return hasStop(at) ? 1 : 0;
            }
            return Integer.bitCount(been) - 1;
        }

        int detail(int what) {
            switch (what) {
                case 0:
                    return homeX;
                case 1:
                    return homeY;
                case 2:
                    return soup;
                case 3:
                    return pace;
                case 4:
                    return cold;
                case 5:
                    return talk;
                case 6:
                    return stops;
                default:
                    return what < 10 || !hasStop(what % 10) ? NOT_THERE : detailOfStop(what / 10, what % 10);
            }
        }

        private int detailOfStop(int tens, int s) {
            switch (tens) {
                case 1:
                    return kind[s];
                case 2:
                    return x[s];
                case 3:
                    return y[s];
                case 4:
                    return least[s];
                case 5:
                    return most[s];
                case 6:
                    return followers[s];
                case 7:
                    return follow[s];
                default:
                    return NOT_THERE;
            }
        }
    }

    /** An EVENING. */
    private static final class Evening {
        static final int DRIVE = 0;
        static final int LADLE = 1;
        static final int WAIT = 2;
        static final int TALK = 3;
        static final int RETURN = 4;

        int deeds;
        final int[] kind = new int[DEEDS];
        final int[] number = new int[DEEDS];

        void copyFrom(Evening other) {
            deeds = other.deeds;
            System.arraycopy(other.kind, 0, kind, 0, DEEDS);
            System.arraycopy(other.number, 0, number, 0, DEEDS);
        }

        void addDeed(int ofKind, int itsNumber) {
            if (deeds >= DEEDS) {
                return;
            }
            kind[deeds] = ofKind;
            number[deeds] = itsNumber;
            deeds++;
        }

        int detail(int k, int what) {
            if (k == NONE) {
                return what == 0 ? deeds : NOT_THERE;
            }
            if (k < 0 || k >= deeds || what < 0 || what > 1) {
                return NOT_THERE;
            }
            return what == 0 ? kind[k] : number[k];
        }
    }

    /** A BOOK; ASKED of a THING stands at THINGS times the NIGHT, and the THING. */
    private static final class Book {
        int nights;
        final int[] seen = new int[NIGHTS];
        final int[] again = new int[NIGHTS];
        final int[] asked = new int[NIGHTS * THINGS];

        void copyFrom(Book other) {
            nights = other.nights;
            System.arraycopy(other.seen, 0, seen, 0, NIGHTS);
            System.arraycopy(other.again, 0, again, 0, NIGHTS);
            System.arraycopy(other.asked, 0, asked, 0, NIGHTS * THINGS);
        }

        void addNight(int wereSeen, int wereSeenAgain) {
            if (nights >= NIGHTS) {
                return;
            }
            seen[nights] = wereSeen;
            again[nights] = wereSeenAgain;
            for (int thing = 0; thing < THINGS; thing++) {
                asked[nights * THINGS + thing] = 0;
            }
            nights++;
        }

        void setAsked(int thing, int many) {
            if (nights > 0 && isThing(thing)) {
                asked[(nights - 1) * THINGS + thing] = many;
            }
        }

        int unlikeAheadOf(int night) {
            int sum = 0;
            for (int k = 0; k < night && k < nights; k++) {
                sum += seen[k] - again[k];
            }
            return sum;
        }

        // by sums from the second NIGHT on, of AGAIN, too
        int heldInAll(boolean under) {
            int top = 0;
            int bottom = 0;
            for (int k = 1; k < nights; k++) {
                top += seen[k] * unlikeAheadOf(k);
                bottom += again[k];
            }
            return bottom == 0 ? NONE : (int) Fraction.part(top, bottom, under);
        }

        int doorway() {
            int best = NONE;
            for (int k = 1; k < nights; k++) {
                int bestTop = best < 0 ? 0 : moreFrom(best);
                int bestBottom = best < 0 ? 1 : best * (nights - best);
                if (moreFrom(k) * bestBottom > bestTop * k * (nights - k)) {
                    best = k;
                }
            }
            return best;
        }

        int doorwayDifference(boolean under) {
            int k = doorway();
            return k < 0 ? NONE : (int) Fraction.part(moreFrom(k), k * (nights - k), under);
        }

        // the difference of the means, times the NIGHTS ahead of k and those from it on
        private int moreFrom(int k) {
            int ahead = seenAheadOf(k);
            return (seenAheadOf(nights) - ahead) * k - ahead * (nights - k);
        }

        private int seenAheadOf(int night) {
            int sum = 0;
            for (int k = 0; k < night && k < nights; k++) {
                sum += seen[k];
            }
            return sum;
        }

        long chanceOfAsMany(Book other, int[] ways, boolean under) {
            Arrays.fill(ways, 0);
            ways[0] = 1;
            for (int k = 0; k < nights; k++) {
                maybePick(seen[k], ways);
            }
            for (int k = 0; k < other.nights; k++) {
                maybePick(other.seen[k], ways);
            }
            long asMany = 0;
            long all = 0;
            int target = seenAheadOf(nights);
            int row = lotRow(nights);
            for (int sum = 0; sum <= 99 * nights; sum++) {
                all += ways[row + sum];
                asMany += sum >= target ? ways[row + sum] : 0;
            }
            return Fraction.part(asMany, all, under);
        }

        // picked ones go up from behind, so that no NIGHT is picked twice
        private void maybePick(int itsSeen, int[] ways) {
            for (int picked = nights - 1; picked >= 0; picked--) {
                int from = lotRow(picked);
                int to = lotRow(picked + 1) + itsSeen;
                for (int sum = 0; sum <= 99 * picked; sum++) {
                    ways[to + sum] += ways[from + sum];
                }
            }
        }

        // where the ways to pick so many NIGHTS begin, one for each sum from 0 to 99 times as many
        static int lotRow(int picked) {
            return 99 * picked * (picked - 1) / 2 + picked;
        }

        int enoughOn(int thing, int manyNights) {
            for (int many = 0; many < 100; many++) {
                int enough = 0;
                for (int k = 0; k < nights; k++) {
                    enough += asked[k * THINGS + thing] <= many ? 1 : 0;
                }
                if (enough >= manyNights) {
                    return many;
                }
            }
            return NONE;
        }

        int couplesWith(Book other, int thing) {
            int couples = 0;
            for (int k = 0; k < nights; k++) {
                for (int j = 0; j < other.nights; j++) {
                    couples += asked[k * THINGS + thing] == other.asked[j * THINGS + thing] ? 1 : 0;
                }
            }
            return couples;
        }

        int detail(int k, int what) {
            if (k == NONE) {
                return what == 0 ? nights : NONE;
            }
            if (k < 0 || k >= nights || what < 0 || what > 4) {
                return NONE;
            }
            if (what < 2) {
                return what == 0 ? seen[k] : again[k];
            }
            return asked[k * THINGS + what - 2];
        }
    }

    /** A LIST. */
    private static final class Sheet {
        int shoes;
        int feet;
        int hides;
        final int[] shoeSize = new int[SHOES];
        final int[] footSize = new int[FEET];
        final int[] need = new int[FEET];
        final int[] x = new int[HIDES];
        final int[] y = new int[HIDES];
        final int[] odds = new int[HIDES];

        void clear() {
            shoes = 0;
            feet = 0;
            hides = 0;
        }

        void copyFrom(Sheet other) {
            shoes = other.shoes;
            feet = other.feet;
            hides = other.hides;
            System.arraycopy(other.shoeSize, 0, shoeSize, 0, SHOES);
            System.arraycopy(other.footSize, 0, footSize, 0, FEET);
            System.arraycopy(other.need, 0, need, 0, FEET);
            System.arraycopy(other.x, 0, x, 0, HIDES);
            System.arraycopy(other.y, 0, y, 0, HIDES);
            System.arraycopy(other.odds, 0, odds, 0, HIDES);
        }

        void addShoe(int size) {
            if (shoes < SHOES) {
                shoeSize[shoes] = size;
                shoes++;
            }
        }

        void addFoot(int size, int itsNeed) {
            if (feet < FEET) {
                footSize[feet] = size;
                need[feet] = itsNeed;
                feet++;
            }
        }

        void addHide(int column, int row, int itsOdds) {
            if (hides < HIDES) {
                x[hides] = column;
                y[hides] = row;
                odds[hides] = itsOdds;
                hides++;
            }
        }

        boolean fits(int shoe, int foot) {
            if (shoe < 0 || shoe >= shoes || foot < 0 || foot >= feet) {
                return false;
            }
            return footSize[foot] == shoeSize[shoe] || footSize[foot] == shoeSize[shoe] - 1;
        }

        int steps(int from, int to) {
            int column = from < 0 || from >= hides ? 0 : x[from];
            int row = from < 0 || from >= hides ? 0 : y[from];
            return to < 0 || to >= hides ? 0 : Math.abs(column - x[to]) + Math.abs(row - y[to]);
        }

        int detail(int what) {
            switch (what) {
                case 0:
                    return shoes;
                case 1:
                    return feet;
                case 2:
                    return hides;
                default:
                    return what < 10 ? NONE : detailOf(what / 10, what % 10);
            }
        }

        private int detailOf(int tens, int k) {
            if (tens == 1) {
                return k < shoes ? shoeSize[k] : NONE;
            }
            if (tens == 2 || tens == 3) {
                return k >= feet ? NONE : tens == 2 ? footSize[k] : need[k];
            }
            if (k >= hides) {
                return NONE;
            }
            switch (tens) {
                case 4:
                    return x[k];
                case 5:
                    return y[k];
                case 6:
                    return odds[k];
                default:
                    return NONE;
            }
        }
    }

    /** Reads a text from the tape into a draft of its sort, and finds its FAULT. */
    private static final class Reader {
        private static final int END = 0;
        private static final int WORD = 1;
        private static final int NUMBER = 2;
        private static final int SEMICOLON = 3;
        private static final int WRONG = 4;

        private static final int FOLLOW = 4;
        private static final int DRIVE = 10;
        private static final int NIGHT = 15;
        private static final int ASKED = 16;
        private static final int SHOE = 17;
        private static final int FOOT = 18;
        private static final int HIDE = 19;

        // of each sort the code of its first line's word, and behind the last sort's
        private static final int[] FIRST_CODE = {0, 10, 15, 17, 20};
        private static final int[] NUMBERS = {4, 4, 4, 4, 3, 2, 1, 1, 1, 1, 1, 1, 1, 0, 0, 2, 1, 1, 2, 3};
        // four places for each code's NUMBERS, those that it has not got being 0; a line for each sort, TOWNS having two
        private static final int[] LOWEST = {
            0, 0, 0, 0,  0, 0, 0, 0,  0, 0, 0, 0,  0, 0, 0, 0,  0, 0, 0, 0,
            0, 0, 0, 0,  0, 0, 0, 0,  1, 0, 0, 0,  0, 0, 0, 0,  1, 0, 0, 0,
            0, 0, 0, 0,  1, 0, 0, 0,  1, 0, 0, 0,  0, 0, 0, 0,  0, 0, 0, 0,
            0, 0, 0, 0,  0, 0, 0, 0,
            1, 0, 0, 0,  1, 0, 0, 0,  0, 0, 0, 0};
        private static final int[] HIGHEST = {
            9, 9, 20, 20,  9, 9, 20, 20,  9, 9, 20, 20,  9, 9, 20, 20,  8, 8, 9, 0,
            9, 9, 0, 0,  99, 0, 0, 0,  9, 0, 0, 0,  99, 0, 0, 0,  30, 0, 0, 0,
            8, 0, 0, 0,  40, 0, 0, 0,  60, 0, 0, 0,  0, 0, 0, 0,  0, 0, 0, 0,
            99, 99, 0, 0,  99, 0, 0, 0,
            20, 0, 0, 0,  20, 9, 0, 0,  9, 9, 20, 0};

        private final byte[] tape;
        private int length;
        private int at;
        private int kind;
        private int start;
        private int value;
        private final int[] numbers = new int[4];
        private int thing;
        private int toldOf;
        int fault;
        int place;
        final Town town = new Town();
        final Evening evening = new Evening();
        final Book book = new Book();
        final Sheet sheet = new Sheet();

        Reader(byte[] tape) {
            this.tape = tape;
        }

        void readText(int sort, int bytes) {
            begin(bytes);
            for (int line = 0; line <= TAPE && kind != END; line++) {
                if (!readLine(sort)) {
                    fault = 1;
                    place = start;
                    return;
                }
            }
            if (toldOf >> town.stops != 0) {
                noteFault(5, length);
            }
        }

        private void begin(int bytes) {
            length = Math.min(bytes, tape.length);
            at = 0;
            toldOf = 0;
            fault = 0;
            place = NONE;
            town.clear();
            evening.deeds = 0;
            book.nights = 0;
            sheet.clear();
            advance();
        }

        // the text is read from left to right, so the first one to be noted is the first by place
        private void noteFault(int number, int where) {
            if (fault == 0) {
                fault = number;
                place = where;
            }
        }

        private boolean readLine(int sort) {
            int code = codeOf(sort);
            if (code < 0) {
                return false;
            }
            checkRoom(code);
            advance();
            if (code == ASKED && !readThing()) {
                return false;
            }
            if (!readNumbers(code) || kind != SEMICOLON) {
                return false;
            }
            advance();
            tellLine(code);
            return true;
        }

        private int codeOf(int sort) {
            if (kind != WORD || sort < 0 || sort >= SORTS) {
                return NONE;
            }
            for (int code = FIRST_CODE[sort]; code < FIRST_CODE[sort + 1]; code++) {
                if (isWord(wordOf(code))) {
                    return code;
                }
            }
            return NONE;
        }

        private void checkRoom(int code) {
            if (code < FOLLOW && town.stops >= STOPS
                    || code >= DRIVE && code < NIGHT && evening.deeds >= DEEDS
                    || code == NIGHT && book.nights >= NIGHTS
                    || code == SHOE && sheet.shoes >= SHOES
                    || code == FOOT && sheet.feet >= FEET
                    || code == HIDE && sheet.hides >= HIDES) {
                noteFault(3, start);
            }
            if (code == ASKED && book.nights == 0) {
                noteFault(4, start);
            }
        }

        private boolean readThing() {
            if (isWord("socks")) {
                thing = 0;
            } else if (isWord("gloves")) {
                thing = 1;
            } else if (isWord("bags")) {
                thing = 2;
            } else {
                return false;
            }
            advance();
            return true;
        }

        private boolean readNumbers(int code) {
            numbers[0] = NONE;
            for (int i = 0; i < NUMBERS[code]; i++) {
                if (kind != NUMBER) {
                    return false;
                }
                numbers[i] = value;
                if (!canBe(code, i)) {
                    noteFault(2, start);
                }
                advance();
            }
            return true;
        }

        private boolean canBe(int code, int i) {
            if (value < LOWEST[code * 4 + i] || value > HIGHEST[code * 4 + i]) {
                return false;
            }
            if (code < FOLLOW && i == 3) {
                return value >= numbers[2];
            }
            if (code == FOLLOW && i == 1) {
                return value != numbers[0];
            }
            return code != NIGHT || i == 0 || value <= numbers[0];
        }

        private void tellLine(int code) {
            if (code < FOLLOW) {
                town.addStop(code, numbers);
            } else if (code < DRIVE) {
                tellOfTown(code);
            } else if (code < NIGHT) {
                evening.addDeed(code - DRIVE, numbers[0]);
            } else if (code == NIGHT) {
                book.addNight(numbers[0], numbers[1]);
            } else if (code == ASKED) {
                book.setAsked(thing, numbers[0]);
            } else if (code == SHOE) {
                sheet.addShoe(numbers[0]);
            } else if (code == FOOT) {
                sheet.addFoot(numbers[0], numbers[1]);
            } else {
                sheet.addHide(numbers[0], numbers[1], numbers[2]);
            }
        }

        private void tellOfTown(int code) {
            switch (code) {
                case FOLLOW:
                    toldOf |= 1 << numbers[0] | 1 << numbers[1];
                    town.setFollow(numbers[0], numbers[1], numbers[2]);
                    break;
                case 5:
                    town.homeX = numbers[0];
                    town.homeY = numbers[1];
                    break;
                case 6:
                    town.soup = numbers[0];
                    break;
                case 7:
                    town.pace = numbers[0];
                    break;
                case 8:
                    town.cold = numbers[0];
                    break;
                default:
                    town.talk = numbers[0];
                    break;
            }
        }

        private static String wordOf(int code) {
            switch (code) {
                case 0:
                    return "even";
                case 1:
                    return "crowded";
                case 2:
                    return "empty";
                case 3:
                    return "last";
                case 4:
                    return "follow";
                case 5:
                    return "home";
                case 6:
                    return "soup";
                case 7:
                    return "pace";
                case 8:
                    return "cold";
                case 9:
                case 13:
                    return "talk";
                case 10:
                    return "drive";
                case 11:
                    return "ladle";
                case 12:
                    return "wait";
                case 14:
                    return "return";
                case 15:
                    return "night";
                case 16:
                    return "asked";
                case 17:
                    return "shoe";
                case 18:
                    return "foot";
                default:
                    return "hide";
            }
        }

        private boolean isWord(String word) {
            if (kind != WORD || at - start != word.length()) {
                return false;
            }
            for (int i = 0; i < word.length(); i++) {
                if (tape[start + i] != word.charAt(i)) {
                    return false;
                }
            }
            return true;
        }

        private void advance() {
            start = at;
            while (start < length && (tape[start] == ' ' || tape[start] == '\n')) {
                start++;
            }
            at = start;
            if (at >= length) {
                kind = END;
            } else if (isLetter(tape[at])) {
                kind = WORD;
                while (at < length && isLetter(tape[at])) {
                    at++;
                }
            } else if (isDigit(tape[at])) {
                readDigits();
            } else {
                kind = tape[at] == ';' ? SEMICOLON : WRONG;
                at++;
            }
        }

        private void readDigits() {
            value = 0;
            while (at < length && isDigit(tape[at])) {
                value = value * 10 + tape[at] - '0';
                at++;
            }
            kind = at - start > 2 ? WRONG : NUMBER;
        }

        private static boolean isLetter(byte sign) {
            return sign >= 'a' && sign <= 'z';
        }

        private static boolean isDigit(byte sign) {
            return sign >= '0' && sign <= '9';
        }
    }

    /** An EVENING as it goes. */
    private static final class Walk {
        private int minute;
        private int at;
        private int aboard;
        private int fed;
        private int warm;
        private int talked;
        private int fedAgain;
        private int seed;
        private final int[] waiting = new int[STOPS];
        private final int[] waitingAgain = new int[STOPS];
        private final int[] fedAt = new int[STOPS];
        private final int[] wentOn = new int[STOPS];

        void begin(Town t) {
            minute = 0;
            at = NONE;
            aboard = t.soup;
            fed = 0;
            warm = 0;
            talked = 0;
            fedAgain = 0;
            for (int s = 0; s < STOPS; s++) {
                waiting[s] = t.middle(s);
                waitingAgain[s] = 0;
                fedAt[s] = 0;
                wentOn[s] = 0;
            }
        }

        // how many of the first n DEEDS could be
        int follow(Town t, Evening e, int n) {
            for (int k = 0; k < n && k < e.deeds; k++) {
                if (!perform(t, e.kind[k], e.number[k])) {
                    return k;
                }
            }
            return Math.min(n, e.deeds);
        }

        void draw(Town t, int from, int n) {
            seed = from;
            for (int i = 0; i < n; i++) {
                int drawn = below(8);
                if (drawn < 3) {
                    if (t.stops > 0) {
                        perform(t, Evening.DRIVE, below(t.stops));
                    }
                } else if (drawn < 6) {
                    perform(t, Evening.LADLE, 1 + below(8));
                } else {
                    perform(t, drawn == 6 ? Evening.TALK : Evening.RETURN, NONE);
                }
            }
        }

        private int below(int n) {
            seed = seed * 1103515245 + 12345;
            return n <= 0 ? 0 : (seed >>> 16) % n;
        }

        private boolean perform(Town t, int kind, int number) {
            switch (kind) {
                case Evening.DRIVE:
                    return t.hasStop(number) && driveTo(t, number);
                case Evening.LADLE:
                    return ladle(t, number);
                case Evening.WAIT:
                    return spend(number);
                case Evening.TALK:
                    return talk(t);
                default:
                    return driveTo(t, NONE);
            }
        }

        private boolean spend(int minutes) {
            if (minute + minutes > LAST_MINUTE) {
                return false;
            }
            minute += minutes;
            return true;
        }

        private boolean driveTo(Town t, int place) {
            if (!spend(t.minutes(at, place))) {
                return false;
            }
            at = place;
            return true;
        }

        private boolean talk(Town t) {
            if (!t.hasStop(at) || !spend(t.talk)) {
                return false;
            }
            talked++;
            return true;
        }

        private boolean ladle(Town t, int many) {
            boolean isWarm = minute < t.cold;
            if (!t.hasStop(at) || many > aboard || many > waiting[at] || !spend((many + 1) / 2)) {
                return false;
            }
            int first = waiting[at] - waitingAgain[at];
            int secondly = Math.max(0, many - first);
            aboard -= many;
            fed += many;
            warm += isWarm ? many : 0;
            fedAgain += secondly;
            fedAt[at] += many;
            waiting[at] -= many;
            waitingAgain[at] -= secondly;
            sendOn(t, many);
            return true;
        }

        private void sendOn(Town t, int many) {
            int to = t.follow[at];
            if (!t.hasStop(to)) {
                return;
            }
            int going = Math.min(many, t.followers[at] - wentOn[at]);
            wentOn[at] += going;
            waiting[to] += going;
            waitingAgain[to] += going;
        }

        int detail(Town t, int what) {
            switch (what) {
                case 0:
                    return minute;
                case 1:
                    return at;
                case 2:
                    return aboard;
                case 3:
                    return fed;
                case 4:
                    return warm;
                case 5:
                    return talked;
                case 6:
                    return fedAgain;
                default:
                    return what < 10 || !t.hasStop(what % 10) ? NOT_THERE : detailOfStop(what / 10, what % 10);
            }
        }

        private int detailOfStop(int tens, int s) {
            switch (tens) {
                case 1:
                    return waiting[s];
                case 2:
                    return waitingAgain[s];
                case 3:
                    return fedAt[s];
                default:
                    return NOT_THERE;
            }
        }
    }

    /** Bowls to give and to keep back, by all that may come. */
    private static final class Bowls {
        private Town of;
        // of a STOP and soup: what counts least from there on, summed over all that may come there and behind
        private final long[] counts = new long[(STOPS + 1) * SOUPS];
        // of a STOP: in how many ways people may come there and behind
        private final long[] ways = new long[STOPS + 1];
        private final long[] sums = new long[STOPS * 20 + 1];

        void forget() {
            of = null;
        }

        int bestGift(Town t, int stop, int s, int d) {
            prepare(t);
            int best = 0;
            for (int gift = 1; gift <= d && gift <= s; gift++) {
                if (countsAfter(t, stop, s, d, gift) <= countsAfter(t, stop, s, d, best)) {
                    best = gift;
                }
            }
            return best;
        }

        long meanFrom(Town t, int stop, int s, boolean under) {
            prepare(t);
            return Fraction.part(counts[stop * SOUPS + s], ways[stop], under);
        }

        long meanOnceTold(Town t, int s, int d, boolean under) {
            int gift = bestGift(t, 0, s, d);
            return Fraction.part(countsAfter(t, 0, s, d, gift), ways[1], under);
        }

        private long countsAfter(Town t, int stop, int s, int d, int gift) {
            return t.weight(stop) * (d - gift) * ways[stop + 1] + counts[(stop + 1) * SOUPS + s - gift];
        }

        private void prepare(Town t) {
            if (of == t) {
                return;
            }
            of = t;
            ways[t.stops] = 1;
            for (int s = 0; s < SOUPS; s++) {
                counts[t.stops * SOUPS + s] = 0;
            }
            for (int stop = t.stops - 1; stop >= 0; stop--) {
                ways[stop] = ways[stop + 1] * (t.most[stop] - t.least[stop] + 1);
                for (int s = 0; s < SOUPS; s++) {
                    counts[stop * SOUPS + s] = countsOverAll(t, stop, s);
                }
            }
        }

        // one more who comes lets one bowl fewer be kept, so the best of all that may be kept goes on from d to d
        private long countsOverAll(Town t, int stop, int s) {
            long unit = t.weight(stop) * ways[stop + 1];
            int next = (stop + 1) * SOUPS;
            long best = unit * s + counts[next + s];
            long sum = 0;
            for (int d = 0; d <= t.most[stop]; d++) {
                int kept = s - d;
                if (kept >= 0) {
                    best = Math.min(best, unit * kept + counts[next + kept]);
                }
                if (d >= t.least[stop]) {
                    sum += best + unit * (d - s);
                }
            }
            return sum;
        }

        long chanceOfMore(Town t, int s, boolean under) {
            prepare(t);
            Arrays.fill(sums, 0);
            sums[0] = 1;
            for (int stop = 0; stop < t.stops; stop++) {
                for (int sum = sums.length - 1; sum >= 0; sum--) {
                    sums[sum] = waysTo(sum, t.least[stop], t.most[stop]);
                }
            }
            long more = 0;
            for (int sum = s + 1; sum < sums.length; sum++) {
                more += sums[sum];
            }
            return Fraction.part(more, ways[0], under);
        }

        private long waysTo(int sum, int least, int most) {
            long found = 0;
            for (int d = least; d <= most && d <= sum; d++) {
                found += sums[sum - d];
            }
            return found;
        }
    }

    /** Ways to drive, by sets of STOPS (bits). */
    private static final class Routes {
        private static final int SETS = 1 << STOPS;
        private static final int FAR = 1000000;

        private Town of;
        int full;
        private final int[] apart = new int[(STOPS + 1) * STOPS];
        // of a set and its last STOP: the fewest minutes of driving from HOME by all of it
        private final int[] path = new int[SETS * STOPS];
        final int[] tour = new int[SETS];
        final int[] people = new int[SETS];
        private final int[] feeding = new int[SETS];
        // of a set the STOPS at which a beginning of a best row may end
        private final int[] good = new int[SETS];
        final int[] roundRow = new int[STOPS];
        final int[] wayRow = new int[STOPS];
        int wayLength;
        int wayPeople;
        int wayMinutes;
        private int peopled;

        void forget() {
            of = null;
        }

        void prepare(Town t) {
            if (of == t) {
                return;
            }
            of = t;
            full = (1 << t.stops) - 1;
            measure(t);
            findPaths(t);
            findRound(t);
            findBestOfWay(t);
            findWay(t);
        }

        private void measure(Town t) {
            peopled = 0;
            for (int s = 0; s < t.stops; s++) {
                for (int from = 0; from < t.stops; from++) {
                    apart[from * STOPS + s] = t.minutes(from, s);
                }
                apart[STOPS * STOPS + s] = t.minutes(NONE, s);
                peopled |= t.middle(s) > 0 ? 1 << s : 0;
                for (int set = 0; set < 1 << s; set++) {
                    people[set | 1 << s] = people[set] + t.middle(s);
                    feeding[set | 1 << s] = feeding[set] + (t.middle(s) + 1) / 2;
                }
            }
        }

        private void findPaths(Town t) {
            for (int set = 1; set <= full; set++) {
                tour[set] = FAR;
                for (int last = 0; last < t.stops; last++) {
                    if (has(set, last)) {
                        int minutes = shortest(t, set & ~(1 << last), last);
                        path[set * STOPS + last] = minutes;
                        tour[set] = Math.min(tour[set], minutes + apart[STOPS * STOPS + last]);
                    }
                }
            }
        }

        private int shortest(Town t, int ahead, int last) {
            if (ahead == 0) {
                return apart[STOPS * STOPS + last];
            }
            int least = FAR;
            for (int s = 0; s < t.stops; s++) {
                if (has(ahead, s)) {
                    least = Math.min(least, path[ahead * STOPS + s] + apart[s * STOPS + last]);
                }
            }
            return least;
        }

        // driving is as long either way, so a path that ends at a STOP is also one home from there
        private void findRound(Town t) {
            int left = full;
            int at = STOPS;
            int minutes = tour[full];
            for (int k = 0; k < t.stops; k++) {
                int next = 0;
                for (int s = t.stops - 1; s >= 0; s--) {
                    if (has(left, s) && apart[at * STOPS + s] + path[left * STOPS + s] == minutes) {
                        next = s;
                    }
                }
                roundRow[k] = next;
                minutes -= apart[at * STOPS + next];
                left &= ~(1 << next);
                at = next;
            }
        }

        // she comes to the last STOP latest, so all are WARM if they are there
        private boolean isWarm(Town t, int set, int last) {
            return doneAt(set, last) - feeding[1 << last] < t.cold;
        }

        private int doneAt(int set, int last) {
            return path[set * STOPS + last] + feeding[set];
        }

        private boolean isPeopled(int set) {
            return (set & ~peopled) == 0;
        }

        private static boolean has(int set, int stop) {
            return (set >> stop & 1) == 1;
        }

        private void findBestOfWay(Town t) {
            wayPeople = 0;
            wayMinutes = 0;
            for (int set = 1; set <= full; set++) {
                int minutes = isPeopled(set) ? fewestMinutes(t, set) : FAR;
                if (minutes < FAR && (people[set] > wayPeople || people[set] == wayPeople && minutes < wayMinutes)) {
                    wayPeople = people[set];
                    wayMinutes = minutes;
                }
            }
        }

        private int fewestMinutes(Town t, int set) {
            int fewest = FAR;
            for (int last = 0; last < t.stops; last++) {
                if (has(set, last) && isWarm(t, set, last)) {
                    fewest = Math.min(fewest, doneAt(set, last));
                }
            }
            return fewest;
        }

        private void findWay(Town t) {
            for (int set = full; set > 0; set--) {
                good[set] = 0;
                for (int last = 0; last < t.stops; last++) {
                    if (isPeopled(set) && has(set, last) && (isBest(t, set, last) || nextOf(t, set, last) >= 0)) {
                        good[set] |= 1 << last;
                    }
                }
            }
            wayLength = 0;
            int set = 0;
            int at = STOPS;
            for (int k = 0; k < t.stops && people[set] < wayPeople; k++) {
                int next = nextOf(t, set, at);
                if (next < 0) {
                    return;
                }
                wayRow[k] = next;
                wayLength = k + 1;
                set |= 1 << next;
                at = next;
            }
        }

        private boolean isBest(Town t, int set, int last) {
            return people[set] == wayPeople && doneAt(set, last) == wayMinutes && isWarm(t, set, last);
        }

        // each beginning of a best row takes the fewest minutes to its set and last STOP, else a better row would be
        private int nextOf(Town t, int set, int at) {
            int driven = set == 0 ? 0 : path[set * STOPS + at];
            for (int s = 0; s < t.stops; s++) {
                int more = set | 1 << s;
                if (more != set && has(good[more], s)
                        && driven + apart[at * STOPS + s] == path[more * STOPS + s]) {
                    return s;
                }
            }
            return NONE;
        }

        int mostWarmWithout(Town t, int stop) {
            int most = 0;
            for (int set = 1; set <= full; set++) {
                if (isPeopled(set) && !has(set, stop) && people[set] > most && fewestMinutes(t, set) < FAR) {
                    most = people[set];
                }
            }
            return most;
        }

        int talksAtFirst(Town t) {
            if (wayLength == 0) {
                return NONE;
            }
            if (wayLength == 1) {
                return 9;
            }
            return Math.min(9, talksAheadOfLast(t));
        }

        // talks ahead of the last STOP of the row delay her there, by which all are still fed WARM or not
        private int talksAheadOfLast(Town t) {
            if (wayLength == 0 || t.talk <= 0) {
                return 0;
            }
            int comes = wayMinutes - feeding[1 << wayRow[wayLength - 1]];
            return (t.cold - 1 - comes) / t.talk;
        }

        int stopsToTalkAt(Town t) {
            if (wayLength == 0) {
                return 0;
            }
            int row = 0;
            for (int k = 0; k < wayLength; k++) {
                row |= 1 << wayRow[k];
            }
            int ahead = row & ~(1 << wayRow[wayLength - 1]);
            int talks = talksAheadOfLast(t);
            int best = 0;
            for (int set = 1; set <= full; set++) {
                if ((set & ~row) == 0 && Integer.bitCount(set & ahead) <= talks && people[set] > people[best]) {
                    best = set;
                }
            }
            return best;
        }

        int homeLast(int first) {
            return Math.max(tour[first], tour[full & ~first]);
        }

        int stopsOfFirstVan() {
            int best = 0;
            for (int set = 1; set <= full; set++) {
                if (homeLast(set) < homeLast(best)) {
                    best = set;
                }
            }
            return best;
        }
    }

    /** To whom shoes go, and where to look first. */
    private static final class Search {
        private static final int SHOE_SETS = 1 << SHOES;
        private static final int HIDE_SETS = 1 << HIDES;
        private static final int FAR = 1000000;

        private Sheet of;
        // of a FOOT and SHOES that are gone (bits): the most NEED from there on
        final int[] need = new int[(FEET + 1) * SHOE_SETS];
        final int[] shoeRow = new int[FEET];
        // of HIDES that were seen (bits) and the latest one: the least minutes times ODDS still to come
        private final int[] walked = new int[HIDE_SETS * HIDES];
        private final int[] oddsOf = new int[HIDE_SETS];
        final int[] hideRow = new int[HIDES];
        int oddsInAll;
        int walkedInAll;

        void forget() {
            of = null;
        }

        void prepare(Sheet s) {
            if (of == s) {
                return;
            }
            of = s;
            findNeed(s);
            findShoes(s);
            findWalked(s);
            findHides(s);
        }

        private void findNeed(Sheet s) {
            for (int gone = 0; gone < SHOE_SETS; gone++) {
                need[s.feet * SHOE_SETS + gone] = 0;
            }
            for (int foot = s.feet - 1; foot >= 0; foot--) {
                for (int gone = 0; gone < SHOE_SETS; gone++) {
                    int most = 0;
                    for (int shoe = 0; shoe <= SHOES; shoe++) {
                        most = Math.max(most, needWith(s, foot, gone, shoe));
                    }
                    need[foot * SHOE_SETS + gone] = most;
                }
            }
        }

        private int needWith(Sheet s, int foot, int gone, int shoe) {
            int next = (foot + 1) * SHOE_SETS + gone;
            if (shoe == SHOES) {
                return need[next];
            }
            if ((gone >> shoe & 1) == 1 || !s.fits(shoe, foot)) {
                return NONE;
            }
            return s.need[foot] + need[next + (1 << shoe)];
        }

        private void findShoes(Sheet s) {
            int gone = 0;
            for (int foot = 0; foot < s.feet; foot++) {
                int shoe = 0;
                while (shoe < SHOES && needWith(s, foot, gone, shoe) != need[foot * SHOE_SETS + gone]) {
                    shoe++;
                }
                shoeRow[foot] = shoe;
                gone |= shoe < SHOES ? 1 << shoe : 0;
            }
        }

        private void findWalked(Sheet s) {
            int full = (1 << s.hides) - 1;
            for (int hide = 0; hide < s.hides; hide++) {
                for (int seen = 0; seen < 1 << hide; seen++) {
                    oddsOf[seen | 1 << hide] = oddsOf[seen] + s.odds[hide];
                }
            }
            oddsInAll = oddsOf[full];
            for (int seen = full; seen > 0; seen--) {
                for (int at = 0; at < s.hides; at++) {
                    if ((seen >> at & 1) == 1) {
                        walked[seen * HIDES + at] = seen == full ? 0 : leastWalked(s, seen, at);
                    }
                }
            }
            walkedInAll = full == 0 ? 0 : leastWalked(s, 0, NONE);
        }

        private int leastWalked(Sheet s, int seen, int at) {
            int least = FAR;
            for (int next = 0; next < s.hides; next++) {
                if ((seen >> next & 1) == 0) {
                    least = Math.min(least, walkedBy(s, seen, at, next));
                }
            }
            return least;
        }

        // a step counts once for all ODDS that are still ahead
        private int walkedBy(Sheet s, int seen, int at, int next) {
            return s.steps(at, next) * (oddsInAll - oddsOf[seen]) + walked[(seen | 1 << next) * HIDES + next];
        }

        private void findHides(Sheet s) {
            int seen = 0;
            int at = NONE;
            for (int k = 0; k < s.hides; k++) {
                int least = leastWalked(s, seen, at);
                int first = 0;
                for (int next = s.hides - 1; next >= 0; next--) {
                    if ((seen >> next & 1) == 0 && walkedBy(s, seen, at, next) == least) {
                        first = next;
                    }
                }
                hideRow[k] = first;
                seen |= 1 << first;
                at = first;
            }
        }
    }

    /** Fractions, and how likely one thing is of two. */
    private static final class Fraction {
        static long part(long top, long bottom, boolean under) {
            long common = divisor(top, bottom);
            if (bottom == 0 || common == 0) {
                return under ? 1 : 0;
            }
            return (under ? bottom : top) / common;
        }

        private static long divisor(long a, long b) {
            for (int i = 0; i < 200 && b != 0; i++) {
                long rest = a % b;
                a = b;
                b = rest;
            }
            return a;
        }

        // if neither can be, 0 by 1
        static long share(long one, long other, boolean under) {
            return part(one, one + other, under);
        }

        static boolean reaches(long one, long other, int ofTen) {
            return 10 * share(one, other, false) >= ofTen * share(one, other, true);
        }

        static long power(int base, int times) {
            long product = 1;
            for (int i = 0; i < times; i++) {
                product *= base;
            }
            return product;
        }
    }
}
