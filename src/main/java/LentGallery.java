import java.util.Arrays;

/** A worked-out gallery that is let as a street: tenants, days, falls, knocks. The document is DOC.md. */
public final class LentGallery {
    public static final int NONE = -1, UNKNOWN = -101, OUTSIDE = -102, STATE = -103, FULL = -104;

    private static final int PLACES = 6;
    private static final int MOST_TENANTS = 5;
    private static final int MOST_KNOCKS = 8;
    private static final int MOST_LETTERS = 12;
    private static final int MOST_WHERE = 12;
    private static final int GALLERY_LETTERS = 9;
    private static final int STRONGEST = 20;
    private static final int PROP_GAIN = 3;
    private static final int LONGEST_HOLD = 40;
    private static final int NEVER = LONGEST_HOLD + 1;
    private static final int LAST_KNOCK_DAY = 20;
    private static final int LAST_ADVISED_DAY = 10;
    private static final int GUESSES = 10;
    private static final int MOST_PROP_DAYS = 20;
    private static final int MOST_YEAR_DAYS = 60;
    private static final int DIGEST_PROP_DAYS = 5;

    private static final int SCHOOL = 1;
    private static final int CHAPEL = 4;
    private static final int[] WEIGHTS = {1, 2, 0, 1, 4};
    private static final int[] BREATHS = {1, 3, 1, 2, 3};

    private final Page page;
    private final Street street;
    private final Knocks knocks;
    private final Street keptStreet;
    private final Knocks keptKnocks;
    private final Street wouldBe;
    private final Settling settling;
    private final Sounding sounding;
    private final Draws draws;
    private boolean hasGallery;
    private boolean hasImage;
    private int galleriesRead;
    private int whereDone;

    public LentGallery() {
        page = new Page();
        street = new Street();
        knocks = new Knocks();
        keptStreet = new Street();
        keptKnocks = new Knocks();
        wouldBe = new Street();
        settling = new Settling();
        sounding = new Sounding();
        draws = new Draws();
    }

    // ---- the gallery

    public int letter(int code) {
        if (code < 1 || code > 126) {
            return OUTSIDE;
        }
        return page.write(code) ? page.length : FULL;
    }

    public int blank() {
        int had = page.length;
        page.length = 0;
        return had;
    }

    public int fault() {
        return page.goodLetters();
    }

    public int gallery() {
        if (page.length != GALLERY_LETTERS || page.goodLetters() != GALLERY_LETTERS) {
            return STATE;
        }
        street.open(page);
        knocks.size = 0;
        page.length = 0;
        hasGallery = true;
        hasImage = false;
        galleriesRead++;
        return street.roof.standing();
    }

    public int place(int place, int what) {
        if (!isPlace(place)) {
            return UNKNOWN;
        }
        switch (what) {
            case 0: return street.roof.strong[place];
            case 1: return street.roof.load[place];
            case 2: return street.dwellers(place);
            case 3: return Math.min(street.roof.lossAt(place), street.roof.strong[place]);
            case 4:
                sounding.sound(street.roof, knocks, place);
                return sounding.possible;
            case 5:
                sounding.sound(street.roof, knocks, place);
                return sounding.bestDay();
            default: return OUTSIDE;
        }
    }

    public int prop(int place) {
        if (!isPlace(place)) {
            return UNKNOWN;
        }
        if (!street.roof.stands(place) || street.roof.strong[place] + PROP_GAIN > STRONGEST) {
            return STATE;
        }
        street.roof.strong[place] += PROP_GAIN;
        street.props++;
        return street.roof.strong[place];
    }

    // ---- tenants, days

    public int tenant(int kind, int place) {
        if (!isKind(kind)) {
            return OUTSIDE;
        }
        if (!isPlace(place)) {
            return UNKNOWN;
        }
        if (!street.roof.stands(place)) {
            return STATE;
        }
        if (street.tenants >= MOST_TENANTS) {
            return FULL;
        }
        street.welcome(kind, place);
        return street.tenants - 1;
    }

    public int about(int tenant, int what) {
        if (!isTenant(tenant)) {
            return UNKNOWN;
        }
        switch (what) {
            case 0: return street.kinds[tenant];
            case 1: return street.homes[tenant];
            case 2: return street.weightOf(tenant);
            case 3: return street.breathOf(tenant);
            case 4: return street.isCutOff(tenant) ? 1 : 0;
            case 5: return street.gaspers() >> tenant & 1;
            default: return OUTSIDE;
        }
    }

    public int as(int tenant, int kind) {
        if (!isTenant(tenant)) {
            return UNKNOWN;
        }
        if (!isKind(kind)) {
            return OUTSIDE;
        }
        return isSuch(street.kinds[tenant], kind) ? tenant : NONE;
    }

    public int move(int tenant, int place) {
        if (!isTenant(tenant) || !isPlace(place)) {
            return UNKNOWN;
        }
        int was = street.homes[tenant];
        return street.rehouse(tenant, place) ? was : STATE;
    }

    public int day() {
        return hasGallery ? street.liveDay() : STATE;
    }

    // ---- what would be

    public int holds() {
        return hasGallery ? orNone(street.roof.firstFall()) : STATE;
    }

    public int where(int what) {
        int asked = what - 10;
        boolean ofTenant = what >= 10 && asked < MOST_TENANTS;
        if (what != 0 && !ofTenant) {
            return OUTSIDE;
        }
        if (!hasGallery || whereDone >= MOST_WHERE) {
            return STATE;
        }
        whereDone++;
        settling.seek(street);
        if (!settling.found) {
            return NONE;
        }
        if (!ofTenant) {
            return orNone(settling.bestHold);
        }
        return isTenant(asked) ? settling.bestHomes[asked] : NONE;
    }

    public int props(int days, int what) {
        int asked = what - 10;
        boolean ofPlace = what >= 10 && asked < PLACES;
        if (days < 1 || days > MOST_PROP_DAYS || (what != 0 && !ofPlace)) {
            return OUTSIDE;
        }
        if (!hasGallery) {
            return STATE;
        }
        int all = street.roof.propsNeeded(days);
        return all == NONE || !ofPlace ? all : street.roof.propsNeededAt(asked, days);
    }

    public int out() {
        return hasGallery ? street.minutesOut() : STATE;
    }

    // ---- knocks

    public int knock(int place, int days, boolean stood) {
        if (!isPlace(place)) {
            return UNKNOWN;
        }
        if (days < 0 || days > LAST_KNOCK_DAY) {
            return OUTSIDE;
        }
        return knocks.hear(place, days, stood) ? knocks.size : FULL;
    }

    public int forget() {
        int were = knocks.size;
        knocks.size = 0;
        return were;
    }

    public int years(int days, int seed, int what) {
        if (days < 1 || days > MOST_YEAR_DAYS || seed < 0 || what < 0 || what > 2) {
            return OUTSIDE;
        }
        if (street.tenants < 1) {
            return STATE;
        }
        draws.seed = seed;
        wouldBe.copyFrom(street);
        int falls = 0;
        for (int i = 0; i < days; i++) {
            int tenant = draws.below(wouldBe.tenants);
            int place = draws.below(PLACES);
            wouldBe.rehouse(tenant, place);
            falls += wouldBe.liveDay();
        }
        if (what == 2) {
            return draws.seed;
        }
        return what == 0 ? falls : Integer.bitCount(wouldBe.gaspers());
    }

    // ---- what is told of all

    public int image() {
        if (!hasGallery) {
            return STATE;
        }
        keptStreet.copyFrom(street);
        keptKnocks.copyFrom(knocks);
        hasImage = true;
        return street.days;
    }

    public int restore() {
        if (!hasImage) {
            return STATE;
        }
        street.copyFrom(keptStreet);
        knocks.copyFrom(keptKnocks);
        return street.days;
    }

    public int count(int what) {
        switch (what) {
            case 0: return street.roof.standing();
            case 1: return street.air;
            case 2: return street.cage;
            case 3: return street.tenants;
            case 4: return street.cutOffs();
            case 5: return Integer.bitCount(street.gaspers());
            case 6: return street.days;
            case 7: return street.falls;
            case 8: return street.props;
            case 9: return knocks.size;
            case 10: return page.length;
            case 11: return galleriesRead;
            case 12: return whereDone;
            default: return OUTSIDE;
        }
    }

    public long digest() {
        long h = 919;
        if (hasGallery) {
            h = mixPlaces(h);
        }
        for (int t = 0; t < street.tenants; t++) {
            for (int what = 0; what <= 5; what++) {
                h = mix(h, about(t, what));
            }
        }
        if (hasGallery) {
            h = mixWouldBe(h);
        }
        for (int i = 0; i < page.length && i < MOST_LETTERS; i++) {
            h = mix(h, page.letters[i]);
        }
        for (int what = 0; what <= 12; what++) {
            h = mix(h, count(what));
        }
        return h;
    }

    private long mixPlaces(long start) {
        long h = start;
        for (int p = 0; p < PLACES; p++) {
            for (int what = 0; what <= 5; what++) {
                h = mix(h, place(p, what));
            }
        }
        return h;
    }

    private long mixWouldBe(long start) {
        long h = mix(mix(start, holds()), out());
        h = mix(h, props(DIGEST_PROP_DAYS, 0));
        for (int what = 10; what <= 15; what++) {
            h = mix(h, props(DIGEST_PROP_DAYS, what));
        }
        return h;
    }

    private static long mix(long h, long number) {
        return 31 * h + number;
    }

    private boolean isPlace(int place) {
        return hasGallery && place >= 0 && place < PLACES;
    }

    private boolean isTenant(int tenant) {
        return tenant >= 0 && tenant < street.tenants && tenant < MOST_TENANTS;
    }

    private static boolean isKind(int kind) {
        return kind >= 0 && kind < WEIGHTS.length;
    }

    private static boolean isSuch(int kind, int asked) {
        return asked == 0 || kind == asked || (kind == CHAPEL && asked == SCHOOL);
    }

    private static int orNone(int days) {
        return days == NEVER ? NONE : days;
    }

    /** THE PAGE: letters that may become a gallery. */
    private static final class Page {
        final int[] letters = new int[MOST_LETTERS];
        int length;

        boolean write(int code) {
            if (length < 0 || length >= MOST_LETTERS) {
                return false;
            }
            letters[length] = code;
            length++;
            return true;
        }

        int goodLetters() {
            int good = 0;
            while (good < length && good < GALLERY_LETTERS && fits(good, letters[good])) {
                good++;
            }
            return good;
        }

        int digit(int at) {
            return at >= 0 && at < MOST_LETTERS ? letters[at] - '0' : 0;
        }

        private static boolean fits(int at, int code) {
            if (at == PLACES) {
                return code == ';';
            }
            int least = at == GALLERY_LETTERS - 1 ? '1' : '0';
            return code >= least && code <= '9';
        }
    }

    /** How strong the places are, and what weight lives in each. */
    private static final class Roof {
        final int[] strong = new int[PLACES];
        final int[] load = new int[PLACES];
        private final int[] losses = new int[PLACES];

        void copyFrom(Roof other) {
            System.arraycopy(other.strong, 0, strong, 0, PLACES);
            System.arraycopy(other.load, 0, load, 0, PLACES);
        }

        boolean stands(int place) {
            return place >= 0 && place < PLACES && strong[place] > 0;
        }

        int standing() {
            int n = 0;
            for (int p = 0; p < PLACES; p++) {
                n += strong[p] > 0 ? 1 : 0;
            }
            return n;
        }

        int firstFallen() {
            int p = 0;
            while (p < PLACES && strong[p] > 0) {
                p++;
            }
            return p;
        }

        int lossAt(int place) {
            if (place < 0 || place >= PLACES || strong[place] <= 0) {
                return 0;
            }
            boolean besideFallen = (place > 0 && strong[place - 1] <= 0)
                || (place < PLACES - 1 && strong[place + 1] <= 0);
            return load[place] + (besideFallen ? 1 : 0);
        }

        /** All losses are taken ahead of any fall, as only what had fallen ahead of the day weakens its neighbours. */
        int passDay() {
            for (int p = 0; p < PLACES; p++) {
                losses[p] = lossAt(p);
            }
            int falls = 0;
            for (int p = 0; p < PLACES; p++) {
                if (strong[p] > 0) {
                    strong[p] = Math.max(0, strong[p] - losses[p]);
                    falls += strong[p] == 0 ? 1 : 0;
                }
            }
            return falls;
        }

        /** Until the first fall each place loses the same each day, so no day need be lived for it. */
        int firstFall() {
            int first = NEVER;
            for (int p = 0; p < PLACES; p++) {
                int loss = lossAt(p);
                if (loss > 0) {
                    first = Math.min(first, (strong[p] + loss - 1) / loss);
                }
            }
            return first;
        }

        int propsNeeded(int days) {
            int all = 0;
            for (int p = 0; p < PLACES; p++) {
                int here = propsNeededAt(p, days);
                if (here == NONE) {
                    return NONE;
                }
                all += here;
            }
            return all;
        }

        /** As no place may fall, no loss changes: each place is reckoned alone. */
        int propsNeededAt(int place, int days) {
            if (!stands(place)) {
                return 0;
            }
            int lacking = lossAt(place) * days + 1 - strong[place];
            if (lacking <= 0) {
                return 0;
            }
            int needed = (lacking + PROP_GAIN - 1) / PROP_GAIN;
            return strong[place] + needed * PROP_GAIN > STRONGEST ? NONE : needed;
        }
    }

    /** The gallery with those who live in it, and what has happened there. */
    private static final class Street {
        final Roof roof = new Roof();
        final int[] kinds = new int[MOST_TENANTS];
        final int[] homes = new int[MOST_TENANTS];
        int tenants;
        int air;
        int cage;
        int days;
        int falls;
        int props;

        void open(Page page) {
            for (int p = 0; p < PLACES; p++) {
                roof.strong[p] = page.digit(p);
                roof.load[p] = 0;
            }
            air = page.digit(PLACES + 1);
            cage = page.digit(PLACES + 2);
            tenants = 0;
            days = 0;
            falls = 0;
            props = 0;
        }

        void copyFrom(Street other) {
            roof.copyFrom(other.roof);
            System.arraycopy(other.kinds, 0, kinds, 0, MOST_TENANTS);
            System.arraycopy(other.homes, 0, homes, 0, MOST_TENANTS);
            tenants = other.tenants;
            air = other.air;
            cage = other.cage;
            days = other.days;
            falls = other.falls;
            props = other.props;
        }

        void welcome(int kind, int place) {
            if (tenants < 0 || tenants >= MOST_TENANTS || !isKind(kind) || !roof.stands(place)) {
                return;
            }
            kinds[tenants] = kind;
            homes[tenants] = place;
            roof.load[place] += WEIGHTS[kind];
            tenants++;
        }

        boolean rehouse(int tenant, int place) {
            if (!isHere(tenant) || !roof.stands(place) || isCutOff(tenant)) {
                return false;
            }
            int weight = weightOf(tenant);
            int was = homes[tenant];
            if (was >= 0 && was < PLACES) {
                roof.load[was] -= weight;
            }
            roof.load[place] += weight;
            homes[tenant] = place;
            return true;
        }

        int liveDay() {
            int fell = roof.passDay();
            days++;
            falls += fell;
            return fell;
        }

        int weightOf(int tenant) {
            return isHere(tenant) && isKind(kinds[tenant]) ? WEIGHTS[kinds[tenant]] : 0;
        }

        int breathOf(int tenant) {
            return isHere(tenant) && isKind(kinds[tenant]) ? BREATHS[kinds[tenant]] : 0;
        }

        boolean isCutOff(int tenant) {
            return isHere(tenant) && homes[tenant] >= roof.firstFallen();
        }

        int cutOffs() {
            int n = 0;
            for (int t = 0; t < tenants; t++) {
                n += isCutOff(t) ? 1 : 0;
            }
            return n;
        }

        int dwellers(int place) {
            int bits = 0;
            for (int t = 0; t < tenants && t < MOST_TENANTS; t++) {
                bits |= homes[t] == place ? 1 << t : 0;
            }
            return bits;
        }

        int gaspers() {
            int left = air;
            int bits = 0;
            for (int p = 0; p < PLACES; p++) {
                int here = dwellers(p);
                for (int t = 0; t < tenants; t++) {
                    if ((here >> t & 1) == 0) {
                        continue;
                    }
                    if (isCutOff(t) || breathOf(t) > left) {
                        bits |= 1 << t;
                    } else {
                        left -= breathOf(t);
                    }
                }
            }
            return bits;
        }

        /** From place p one is at the shaft behind minute p + 1; the cage comes ahead of the walk, so it may take him in the next. */
        int minutesOut() {
            int below = tenants - cutOffs();
            int waiting = 0;
            int minute = 0;
            while (below > 0 && minute < PLACES + MOST_TENANTS) {
                minute++;
                int up = Math.min(waiting, cage);
                waiting -= up;
                below -= up;
                waiting += comersFrom(minute - 1);
            }
            return minute;
        }

        private int comersFrom(int place) {
            return place < roof.firstFallen() ? Integer.bitCount(dwellers(place)) : 0;
        }

        private boolean isHere(int tenant) {
            return tenant >= 0 && tenant < tenants && tenant < MOST_TENANTS;
        }
    }

    /** What the landlord heard: that a place stood, or had fallen, behind so many days. */
    private static final class Knocks {
        private final int[] places = new int[MOST_KNOCKS];
        private final int[] days = new int[MOST_KNOCKS];
        private final int[] stood = new int[MOST_KNOCKS];
        int size;

        boolean hear(int place, int day, boolean stands) {
            if (size < 0 || size >= MOST_KNOCKS) {
                return false;
            }
            places[size] = place;
            days[size] = day;
            stood[size] = stands ? 1 : 0;
            size++;
            return true;
        }

        void copyFrom(Knocks other) {
            System.arraycopy(other.places, 0, places, 0, MOST_KNOCKS);
            System.arraycopy(other.days, 0, days, 0, MOST_KNOCKS);
            System.arraycopy(other.stood, 0, stood, 0, MOST_KNOCKS);
            size = other.size;
        }

        int lastDay() {
            int last = 0;
            for (int i = 0; i < size && i < MOST_KNOCKS; i++) {
                last = Math.max(last, days[i]);
            }
            return last;
        }

        boolean agreeWith(int[] fallenBy) {
            for (int i = 0; i < size && i < MOST_KNOCKS; i++) {
                int place = places[i];
                if (place < 0 || place >= fallenBy.length) {
                    return false;
                }
                int stands = days[i] < fallenBy[place] ? 1 : 0;
                if (stands != stood[i]) {
                    return false;
                }
            }
            return true;
        }
    }

    /** WHERE: the homes of all tenants by which the gallery holds longest. */
    private static final class Settling {
        private final Roof roof = new Roof();
        private final int[] homes = new int[MOST_TENANTS];
        final int[] bestHomes = new int[MOST_TENANTS];
        int bestHold;
        boolean found;

        void seek(Street street) {
            roof.copyFrom(street.roof);
            Arrays.fill(roof.load, 0);
            bestHold = 0;
            found = false;
            settle(this, street, 0);
        }

        /** One more tenant never makes it hold longer, so what already holds no longer than the best is left. */
        private static void settle(Settling plan, Street street, int tenant) {
            int hold = plan.roof.firstFall();
            if (hold <= plan.bestHold) {
                return;
            }
            if (tenant < 0 || tenant >= street.tenants || tenant >= MOST_TENANTS) {
                plan.keep(hold);
                return;
            }
            int weight = street.weightOf(tenant);
            for (int p = 0; p < PLACES; p++) {
                if (plan.roof.stands(p)) {
                    plan.homes[tenant] = p;
                    plan.roof.load[p] += weight;
                    settle(plan, street, tenant + 1);
                    plan.roof.load[p] -= weight;
                }
            }
        }

        private void keep(int hold) {
            found = true;
            bestHold = hold;
            System.arraycopy(homes, 0, bestHomes, 0, MOST_TENANTS);
        }
    }

    /** STRONG and KNOCK: each strength that a place may have is tried, all else as it is. */
    private static final class Sounding {
        private final Roof trial = new Roof();
        private final int[] fallenBy = new int[PLACES];
        private final int[] guessFallenBy = new int[GUESSES];
        int possible;

        void sound(Roof now, Knocks knocks, int place) {
            possible = 0;
            if (place < 0 || place >= PLACES) {
                return;
            }
            int lastDay = Math.max(LAST_ADVISED_DAY, knocks.lastDay());
            for (int guess = 0; guess < GUESSES; guess++) {
                trial.copyFrom(now);
                trial.strong[place] = guess;
                liveDays(lastDay);
                guessFallenBy[guess] = fallenBy[place];
                possible |= knocks.agreeWith(fallenBy) ? 1 << guess : 0;
            }
        }

        int bestDay() {
            if (possible == 0) {
                return NONE;
            }
            int best = 1;
            int fewest = GUESSES + 1;
            for (int day = 1; day <= LAST_ADVISED_DAY; day++) {
                int left = leftAtWorst(day);
                if (left < fewest) {
                    fewest = left;
                    best = day;
                }
            }
            return best;
        }

        private int leftAtWorst(int day) {
            int standing = 0;
            for (int guess = 0; guess < GUESSES; guess++) {
                standing += day < guessFallenBy[guess] ? possible >> guess & 1 : 0;
            }
            return Math.max(standing, Integer.bitCount(possible) - standing);
        }

        /** What has fallen stays so: the day behind which a place has fallen tells all of it. */
        private void liveDays(int lastDay) {
            for (int p = 0; p < PLACES; p++) {
                fallenBy[p] = trial.stands(p) ? NEVER : 0;
            }
            for (int day = 1; day <= lastDay && day <= LAST_KNOCK_DAY; day++) {
                trial.passDay();
                for (int p = 0; p < PLACES; p++) {
                    if (fallenBy[p] == NEVER && !trial.stands(p)) {
                        fallenBy[p] = day;
                    }
                }
            }
        }
    }

    /** DRAWS by a seed. */
    private static final class Draws {
        int seed;

        int below(int bound) {
            seed = (int) ((1103515245L * seed + 12345L) % 2147483648L);
            return bound > 0 ? seed / 65536 % bound : 0;
        }
    }
}
