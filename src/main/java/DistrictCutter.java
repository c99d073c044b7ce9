import java.util.Arrays;

/**
 * An office that parts a land into districts, or judges a parting that was drawn elsewhere.
 * What each call answers and changes stands in the document, as promises 1 to 26.
 */
public final class DistrictCutter {
    public static final int NONE = -1, FULL = -2, KIND = -3, BIG = -4, EMPTY = -5;

    private static final int MOST_PLACES = 30;
    private static final int MOST_BORDERS = 100;
    private static final int MOST_DISTRICTS = 6;
    private static final int MOST_EACH = 1000;
    private static final int MOST_TOLERANCE = 1000;
    private static final int MOST_AREA = 100;
    private static final int MOST_LENGTH = 100;
    private static final int MOST_STEPS = 200;
    private static final int MOST_MENDED = 2;
    private static final int MOST_CLASS_PLACES = 12;
    private static final int MOST_SURVEYED = 20000;
    private static final int ANY_NUMBER = Integer.MAX_VALUE;
    private static final int TOWNS = 10;
    private static final int LAWS = 6;
    private static final int MEASURES = 7;
    private static final int EDGE_MEASURE = 0, CUT_MEASURE = 1, PEOPLE_MEASURE = 6;
    private static final int SEEN_ROWS = 6;
    private static final int NO_CLASS = -2000000;
    private static final int NO_MENDING = -6;

    private final Land theLand;
    private final Law theLaw;
    private final Parting theParting;
    private final Court court;
    private final Scale scale;
    private final ClassBook classes;
    private final Walker walker;
    private final Improver improver;
    private final Mender mender;

    public DistrictCutter() {
        Land land = new Land();
        Law law = new Law();
        Court judges = new Court(land, law);
        Scale weights = new Scale(land, law);
        theLand = land;
        theLaw = law;
        theParting = new Parting();
        court = judges;
        scale = weights;
        classes = new ClassBook(land, law, judges, weights);
        walker = new Walker(land, judges, weights);
        improver = new Improver(land, law, judges);
        mender = new Mender(land, law, judges);
    }

    public int place(int people, int zero, int one, int area, int town) {
        boolean asSaid = isWithin(people, 0, MOST_EACH) && isWithin(zero, 0, MOST_EACH)
            && isWithin(one, 0, MOST_EACH) && isWithin(area, 1, MOST_AREA) && isTown(town);
        if (!asSaid) {
            return NONE;
        }
        if (theLand.places >= MOST_PLACES) {
            return FULL;
        }
        int number = theLand.addPlace(people, zero, one, area, town);
        theParting.move(number, 0);
        classes.forget();
        return number;
    }

    public int border(int a, int b, int length) {
        if (!theLand.hasPlace(a) || !theLand.hasPlace(b) || a == b) {
            return NONE;
        }
        if (!isWithin(length, 1, MOST_LENGTH) || Sets.has(theLand.next[a], b)) {
            return NONE;
        }
        if (theLand.borders >= MOST_BORDERS) {
            return FULL;
        }
        classes.forget();
        return theLand.addBorder(a, b, length);
    }

    public int law(int k, int t) {
        if (!isWithin(k, 1, MOST_DISTRICTS) || !isWithin(t, 0, MOST_TOLERANCE)) {
            return NONE;
        }
        theLaw.k = k;
        theLaw.tolerance = t;
        theLaw.fixNothing();
        theParting.gather(theLand.everywhere());
        classes.forget();
        return 1;
    }

    public int keep(int town, int is) {
        if (!isTown(town) || !isWithin(is, 0, 1)) {
            return NONE;
        }
        int was = theLaw.kept[town] ? 1 : 0;
        theLaw.kept[town] = is == 1;
        classes.forget();
        return was;
    }

    public int cuts(int n) {
        if (!isWithin(n, 0, TOWNS)) {
            return NONE;
        }
        int was = theLaw.cutsAllowed;
        theLaw.cutsAllowed = n;
        classes.forget();
        return was;
    }

    public int fix(int place, int district) {
        if (!theLand.hasPlace(place) || (district != NONE && !theLaw.hasDistrict(district))) {
            return NONE;
        }
        int was = theLaw.fixed[place];
        theLaw.fixed[place] = district;
        return was;
    }

    public int people(int place, int v) {
        if (!theLand.hasPlace(place) || !isWithin(v, 0, MOST_EACH)) {
            return NONE;
        }
        classes.forget();
        return theLand.changePeople(place, v);
    }

    // ---- the parting

    public int put(int place, int district) {
        if (!theLand.hasPlace(place) || !theLaw.hasDistrict(district)) {
            return NONE;
        }
        int was = theParting.where[place];
        theParting.move(place, district);
        return was;
    }

    public int at(int place) {
        return theLand.hasPlace(place) ? theParting.where[place] : NONE;
    }

    public int lawful() {
        return theLand.places == 0 ? EMPTY : court.brokenLaw(theParting);
    }

    public int why(int what) {
        int broken = theLand.places == 0 ? 0 : court.brokenLaw(theParting);
        if (broken == 0) {
            return NONE;
        }
        int culprit = court.culprit(broken, theParting);
        if (what == 0) {
            return culprit;
        }
        return broken == Court.HANGING_LAW ? court.looseEnd(theParting.sets[culprit], what) : NONE;
    }

    public int measure(int m) {
        return isMeasure(m) ? scale.weigh(theParting, m) : NONE;
    }

    public int district(int d, int what) {
        if (!theLaw.hasDistrict(d)) {
            return NONE;
        }
        int set = theParting.sets[d];
        switch (what) {
            case 0:
                return Integer.bitCount(set);
            case 1:
                return Sets.sum(theLand.people, set);
            case 2:
                return Sets.sum(theLand.zero, set);
            case 3:
                return Sets.sum(theLand.one, set);
            case 4:
                return Sets.sum(theLand.area, set);
            case 5:
                return theLand.outline(set);
            case 6:
                return court.hangs(set) ? 1 : 0;
            case 7:
                return Sets.first(set);
            default:
                return NONE;
        }
    }

    public int land(int what) {
        switch (what) {
            case 0:
                return theLand.places;
            case 1:
                return theLand.borders;
            case 2:
                return theLand.everyone;
            case 3:
                return theLaw.k;
            case 4:
                return theLaw.tolerance;
            case 5:
                return theLaw.fixedPlaces();
            case 6:
                return theLaw.cutsAllowed;
            default:
                return NONE;
        }
    }

    // ---- classes

    public int count() {
        int refusal = openClasses(ANY_NUMBER);
        return refusal < 0 ? refusal : classes.total();
    }

    public int kth(int i) {
        int refusal = openClasses(ANY_NUMBER);
        if (refusal < 0) {
            return refusal;
        }
        if (!classes.hasNumber(i)) {
            return NONE;
        }
        classes.lay(i, theParting);
        return 1;
    }

    public int which() {
        int refusal = openClasses(ANY_NUMBER);
        return refusal < 0 ? refusal : classes.rank(theParting);
    }

    public int same(int i) {
        int refusal = openClasses(ANY_NUMBER);
        if (refusal < 0) {
            return refusal;
        }
        if (!classes.hasNumber(i)) {
            return NONE;
        }
        return classes.rank(theParting) == i ? 1 : 0;
    }

    public int least(int m) {
        if (!isMeasure(m)) {
            return NONE;
        }
        int refusal = openClasses(MOST_SURVEYED);
        if (refusal < 0) {
            return refusal;
        }
        classes.survey(m, 0);
        return classes.lowest;
    }

    public int among(int m, int how) {
        if (!isMeasure(m) || !isWithin(how, 0, 2)) {
            return NONE;
        }
        int refusal = openClasses(MOST_SURVEYED);
        if (refusal < 0) {
            return refusal;
        }
        classes.survey(m, scale.weigh(theParting, m));
        return classes.tally[how];
    }

    // ---- walks

    public int step(int seed) {
        int refusal = changeRefusal();
        if (refusal < 0) {
            return refusal;
        }
        walker.seed = seed;
        return walker.takeStep(theParting) ? 1 : 0;
    }

    public int walk(int n, int seed, int m) {
        if (!isWithin(n, 1, MOST_STEPS) || !isMeasure(m)) {
            return NONE;
        }
        int refusal = changeRefusal();
        if (refusal < 0) {
            return refusal;
        }
        walker.seed = seed;
        walker.roam(theParting, n, m);
        return walker.sights[0];
    }

    public int seen(int how) {
        return walker.hasWalked && isWithin(how, 0, SEEN_ROWS - 1) ? walker.sights[how] : NONE;
    }

    // ---- changes

    public int better() {
        int refusal = changeRefusal();
        return refusal < 0 ? refusal : improver.improve(theParting);
    }

    public int mend(int n) {
        if (!isWithin(n, 0, MOST_MENDED)) {
            return NONE;
        }
        return theLand.places == 0 ? EMPTY : mender.repair(theParting, n);
    }

    // ---- what calls refuse: below 0, or 0 if nothing is refused

    /** Makes the book of classes ready, too: all calls that ask it come by here. */
    private int openClasses(int mostClasses) {
        if (theLand.places > MOST_CLASS_PLACES) {
            return BIG;
        }
        if (theLand.places == 0) {
            return EMPTY;
        }
        classes.prepare();
        return classes.total() > mostClasses ? BIG : 0;
    }

    private int changeRefusal() {
        if (theLand.places == 0) {
            return EMPTY;
        }
        return court.allows(theParting) ? 0 : KIND;
    }

    private static boolean isWithin(int value, int lowest, int greatest) {
        return value >= lowest && value <= greatest;
    }

    private static boolean isTown(int town) {
        return isWithin(town, 0, TOWNS - 1);
    }

    private static boolean isMeasure(int m) {
        return isWithin(m, 0, MEASURES - 1);
    }

    /**
     * Sets of places as bits of an int. Place 0 is the highest bit: so of two sets the one that
     * has the least place in which they differ is the greater number, which is how SETS are ordered.
     */
    private static final class Sets {
        static int only(int place) {
            return 1 << (MOST_PLACES - 1 - place);
        }

        static boolean has(int set, int place) {
            return (set >>> (MOST_PLACES - 1 - place) & 1) != 0;
        }

        /** The least place of a set; NONE if it is empty. */
        static int first(int set) {
            for (int place = 0; place < MOST_PLACES; place++) {
                if (has(set, place)) {
                    return place;
                }
            }
            return NONE;
        }

        /** The greatest place of a set that is not empty: cheaper to find than the least one. */
        static int last(int set) {
            return MOST_PLACES - 1 - Integer.bitCount((set & -set) - 1);
        }

        static int sum(int[] row, int set) {
            int sum = 0;
            int open = set;
            for (int i = 0; i < MOST_PLACES && open != 0; i++) {
                sum += row[last(open)];
                open &= open - 1;
            }
            return sum;
        }

        /** What one comes to within a set from some of its places, next[place] being one move away. */
        static int spread(int[] next, int set, int start) {
            int found = start & set;
            int open = found;
            for (int i = 0; i < MOST_PLACES && open != 0; i++) {
                // last(open), written out: this is the innermost of the deepest calls
                int place = MOST_PLACES - 1 - Integer.bitCount((open & -open) - 1);
                int fresh = next[place] & set & ~found;
                found |= fresh;
                open = (open & (open - 1)) | fresh;
            }
            return found;
        }
    }

    /** Places and borders, as they were made. */
    private static final class Land {
        int places;
        int borders;
        int everyone;
        final int[] people;
        final int[] zero;
        final int[] one;
        final int[] area;
        final int[] next;
        final int[] towns;
        final int[] from;
        final int[] to;
        final int[] length;

        Land() {
            people = new int[MOST_PLACES];
            zero = new int[MOST_PLACES];
            one = new int[MOST_PLACES];
            area = new int[MOST_PLACES];
            next = new int[MOST_PLACES];
            towns = new int[TOWNS];
            from = new int[MOST_BORDERS];
            to = new int[MOST_BORDERS];
            length = new int[MOST_BORDERS];
        }

        boolean hasPlace(int place) {
            return isWithin(place, 0, places - 1);
        }

        int addPlace(int dwellers, int votesZero, int votesOne, int size, int town) {
            int number = places;
            places++;
            people[number] = dwellers;
            everyone += dwellers;
            zero[number] = votesZero;
            one[number] = votesOne;
            area[number] = size;
            towns[town] |= Sets.only(number);
            return number;
        }

        int addBorder(int a, int b, int span) {
            int number = borders;
            borders++;
            from[number] = a;
            to[number] = b;
            length[number] = span;
            next[a] |= Sets.only(b);
            next[b] |= Sets.only(a);
            return number;
        }

        int changePeople(int place, int dwellers) {
            int was = people[place];
            people[place] = dwellers;
            everyone += dwellers - was;
            return was;
        }

        /** The set of all places. */
        int everywhere() {
            int set = 0;
            for (int place = 0; place < places; place++) {
                set |= Sets.only(place);
            }
            return set;
        }

        boolean isInside(int border, int set) {
            return Sets.has(set, from[border]) && Sets.has(set, to[border]);
        }

        /** The lengths of a set's borders with others. */
        int outline(int set) {
            int sum = 0;
            for (int border = 0; border < borders; border++) {
                if (Sets.has(set, from[border]) != Sets.has(set, to[border])) {
                    sum += length[border];
                }
            }
            return sum;
        }

        /** The lengths of the borders that go out of a set, told from their first place alone. */
        int outgoing(int set) {
            int sum = 0;
            for (int border = 0; border < borders; border++) {
                if (Sets.has(set, from[border]) && !Sets.has(set, to[border])) {
                    sum += length[border];
                }
            }
            return sum;
        }

        /** The lengths of a place's borders with places of a set. */
        int contact(int place, int set) {
            if ((next[place] & set) == 0) {
                return 0;
            }
            int sum = 0;
            for (int border = 0; border < borders; border++) {
                boolean touches = from[border] == place && Sets.has(set, to[border])
                    || to[border] == place && Sets.has(set, from[border]);
                if (touches) {
                    sum += length[border];
                }
            }
            return sum;
        }
    }

    /** What is asked of a parting. */
    private static final class Law {
        int k;
        int tolerance;
        int cutsAllowed;
        final boolean[] kept;
        final int[] fixed;

        Law() {
            k = 2;
            tolerance = 100;
            cutsAllowed = TOWNS;
            kept = new boolean[TOWNS];
            fixed = new int[MOST_PLACES];
            Arrays.fill(fixed, NONE);
        }

        boolean hasDistrict(int district) {
            return isWithin(district, 0, k - 1);
        }

        void fixNothing() {
            Arrays.fill(fixed, NONE);
        }

        int fixedPlaces() {
            int found = 0;
            for (int place = 0; place < MOST_PLACES; place++) {
                if (fixed[place] != NONE) {
                    found++;
                }
            }
            return found;
        }
    }

    /** The district of each place, and of each district the set of its places. */
    private static final class Parting {
        final int[] where;
        final int[] sets;

        Parting() {
            where = new int[MOST_PLACES];
            sets = new int[MOST_DISTRICTS];
        }

        void move(int place, int district) {
            sets[where[place]] &= ~Sets.only(place);
            sets[district] |= Sets.only(place);
            where[place] = district;
        }

        /** All places come into district 0. */
        void gather(int everywhere) {
            Arrays.fill(where, 0);
            Arrays.fill(sets, 0);
            sets[0] = everywhere;
        }

        /** A district gets just these places; the caller deals those it had to others. */
        void deal(int district, int set) {
            sets[district] = set;
            for (int place = 0; place < MOST_PLACES; place++) {
                if (Sets.has(set, place)) {
                    where[place] = district;
                }
            }
        }

        void become(Parting other) {
            System.arraycopy(other.where, 0, where, 0, MOST_PLACES);
            System.arraycopy(other.sets, 0, sets, 0, MOST_DISTRICTS);
        }

        /** Whether the districts come ahead of the other's: of the first that differ the lesser does. */
        boolean comesAhead(Parting other) {
            for (int place = 0; place < MOST_PLACES; place++) {
                if (where[place] != other.where[place]) {
                    return where[place] < other.where[place];
                }
            }
            return false;
        }
    }

    /** Judges partings by the law. */
    private static final class Court {
        static final int VOID_LAW = 1, HANGING_LAW = 2, SIZE_LAW = 3, KEPT_LAW = 4, FIXED_LAW = 5;

        private final Land land;
        private final Law law;

        Court(Land land, Law law) {
            this.land = land;
            this.law = law;
        }

        /** The number of the first law that is broken; 0 if none is. */
        int brokenLaw(Parting parting) {
            for (int number = 1; number <= LAWS; number++) {
                if (culprit(number, parting) >= 0) {
                    return number;
                }
            }
            return 0;
        }

        /** The first district, town or place that breaks a law; NONE if none does. */
        int culprit(int number, Parting parting) {
            switch (number) {
                case VOID_LAW:
                case HANGING_LAW:
                case SIZE_LAW:
                    return badDistrict(number, parting);
                case KEPT_LAW:
                    return cutKeptTown(parting);
                case FIXED_LAW:
                    return strayPlace(parting);
                default:
                    return townTooMany(parting);
            }
        }

        /** Of a district in pieces: 1 its least place, 2 the least place that is cut off from that. */
        int looseEnd(int set, int what) {
            int start = Sets.first(set);
            if (what == 1) {
                return start;
            }
            if (what != 2 || start == NONE) {
                return NONE;
            }
            return Sets.first(set & ~Sets.spread(land.next, set, Sets.only(start)));
        }

        /** Whether all is lawful: asks the cheapest first, as no one wants to know which law is broken. */
        boolean allows(Parting parting) {
            for (int district = 0; district < law.k; district++) {
                if (!mayBeDistrict(parting.sets[district])) {
                    return false;
                }
            }
            return strayPlace(parting) == NONE && townTooMany(parting) == NONE;
        }

        /** Whether a set breaks no law that can be told from one district alone. */
        boolean mayBeDistrict(int set) {
            return set != 0 && fits(Sets.sum(land.people, set)) && leavesKeptWhole(set) && hangs(set);
        }

        boolean hangs(int set) {
            return Sets.spread(land.next, set, set & -set) == set;
        }

        boolean fits(int dwellers) {
            int off = Math.abs(law.k * dwellers - land.everyone);
            return 1000 * off <= law.tolerance * land.everyone;
        }

        private boolean leavesKeptWhole(int set) {
            for (int town = 0; town < TOWNS; town++) {
                int part = land.towns[town] & set;
                if (law.kept[town] && part != 0 && part != land.towns[town]) {
                    return false;
                }
            }
            return true;
        }

        private int badDistrict(int number, Parting parting) {
            for (int district = 0; district < law.k; district++) {
                if (isBad(number, parting.sets[district])) {
                    return district;
                }
            }
            return NONE;
        }

        private boolean isBad(int number, int set) {
            switch (number) {
                case VOID_LAW:
                    return set == 0;
                case HANGING_LAW:
                    return !hangs(set);
                default:
                    return !fits(Sets.sum(land.people, set));
            }
        }

        private int cutKeptTown(Parting parting) {
            for (int town = 0; town < TOWNS; town++) {
                if (law.kept[town] && isCut(town, parting)) {
                    return town;
                }
            }
            return NONE;
        }

        private int strayPlace(Parting parting) {
            for (int place = 0; place < land.places; place++) {
                if (law.fixed[place] != NONE && law.fixed[place] != parting.where[place]) {
                    return place;
                }
            }
            return NONE;
        }

        private int townTooMany(Parting parting) {
            int cut = 0;
            for (int town = 0; town < TOWNS; town++) {
                if (isCut(town, parting)) {
                    cut++;
                    if (cut > law.cutsAllowed) {
                        return town;
                    }
                }
            }
            return NONE;
        }

        private boolean isCut(int town, Parting parting) {
            int set = land.towns[town];
            return set != 0 && (set & ~parting.sets[parting.where[Sets.last(set)]]) != 0;
        }
    }

    /** Measures: all but the last are sums of shares that each district has by itself. */
    private static final class Scale {
        final int[] shares;
        private final Land land;
        private final Law law;

        Scale(Land land, Law law) {
            this.land = land;
            this.law = law;
            shares = new int[MOST_DISTRICTS];
        }

        int weigh(Parting parting, int m) {
            for (int district = 0; district < law.k; district++) {
                shares[district] = shareOf(parting.sets[district], m);
            }
            return together(m);
        }

        /** The measure of a parting whose districts have these shares. */
        int together(int m) {
            int sum = 0;
            int greatest = 0;
            int lowest = Integer.MAX_VALUE;
            for (int district = 0; district < law.k; district++) {
                sum += shares[district];
                greatest = Math.max(greatest, shares[district]);
                lowest = Math.min(lowest, shares[district]);
            }
            return m == PEOPLE_MEASURE ? greatest - lowest : sum;
        }

        int shareOf(int set, int m) {
            switch (m) {
                case EDGE_MEASURE:
                    return land.outgoing(set);
                case CUT_MEASURE:
                    return cutTowns(set);
                case PEOPLE_MEASURE:
                    return Sets.sum(land.people, set);
                default:
                    return voteShare(set, m);
            }
        }

        private int voteShare(int set, int m) {
            int zero = Sets.sum(land.zero, set);
            int one = Sets.sum(land.one, set);
            switch (m) {
                case 2:
                    return zero > one ? 1 : 0;
                case 3:
                    return one > zero ? 1 : 0;
                case 4:
                    return wasted(zero, one);
                default:
                    return wasted(one, zero);
            }
        }

        /** The towns that are not whole in a set; each is told by the set of its last place alone. */
        int cutTowns(int set) {
            int cut = 0;
            for (int town = 0; town < TOWNS; town++) {
                int whole = land.towns[town];
                if (whole != 0 && Sets.has(set, Sets.last(whole)) && (whole & ~set) != 0) {
                    cut++;
                }
            }
            return cut;
        }

        private static int wasted(int own, int others) {
            return own > others ? own - (own + others) / 2 - 1 : own;
        }
    }

    /**
     * The lawful classes of a small land. They are counted, not listed: what is left to part, into
     * how many sets and with how many towns to cut, can be parted in a number of ways, kept once told.
     */
    private static final class ClassBook {
        private static final int BARRED = -1;
        private static final int MOST_SETS = 1 << MOST_CLASS_PLACES;
        // twelve places make six towns that can be cut: a bound that bars something leaves 0 .. 5 cuts
        private static final int MOST_PURSES = 6;
        // three numbers of ways have room in a long: none is beyond 246730, eleven places in five sets
        private static final int WAYS_BITS = 21;
        private static final int WAYS_MASK = (1 << WAYS_BITS) - 1;
        private static final int WAYS_PER_SLOT = 3;

        int lowest;
        final int[] tally;
        private final Land land;
        private final Law law;
        private final Court court;
        private final Scale scale;
        private final int[] chosen;
        private final int[] prices;
        private final long[] told;
        private boolean isFresh;
        private int everywhere;
        private int shift;
        private int budget;
        private int all;
        private int mark;

        ClassBook(Land land, Law law, Court court, Scale scale) {
            this.land = land;
            this.law = law;
            this.court = court;
            this.scale = scale;
            tally = new int[3];
            chosen = new int[MOST_DISTRICTS];
            prices = new int[MOST_SETS];
            told = new long[MOST_SETS * MOST_PURSES / WAYS_PER_SLOT];
        }

        /** The land or the law is another one now. */
        void forget() {
            isFresh = false;
        }

        /** Comes ahead of all other calls, for a land of 1 to 12 places. */
        void prepare() {
            if (isFresh) {
                return;
            }
            isFresh = true;
            everywhere = land.everywhere();
            shift = MOST_PLACES - land.places;
            boolean isBound = severalPlaceTowns() > law.cutsAllowed;
            budget = isBound ? law.cutsAllowed : 0;
            fillPrices(isBound);
            clearTold();
            all = law.k > 1 ? waysAhead(law.k, everywhere, budget, 0) : ways(law.k, everywhere, budget);
        }

        int total() {
            return all;
        }

        boolean hasNumber(int number) {
            return isWithin(number, 0, all - 1);
        }

        /** The number of a parting's class; NONE if that is not lawful. */
        int rank(Parting parting) {
            int rest = everywhere;
            int purse = budget;
            int number = 0;
            for (int left = law.k; left > 0; left--) {
                int lead = Sets.first(rest);
                if (lead == NONE) {
                    return NONE;
                }
                int set = parting.sets[parting.where[lead]];
                int price = prices[set >>> shift];
                if (price == BARRED || price > purse) {
                    return NONE;
                }
                number += waysAhead(left, rest, purse, set);
                rest &= ~set;
                purse -= price;
            }
            return number;
        }

        /** A parting becomes the one that is laid for a class; its number is below the total. */
        void lay(int number, Parting parting) {
            choose(number);
            for (int district = 0; district < law.k; district++) {
                parting.deal(district, chosen[district]);
            }
        }

        /** Tells how many classes have less, as much, more of a measure than a mark, and the least. */
        void survey(int m, int bar) {
            lowest = NO_CLASS;
            mark = bar;
            Arrays.fill(tally, 0);
            if (all > 0) {
                visit(law.k, everywhere, budget, m);
            }
        }

        private int severalPlaceTowns() {
            int found = 0;
            for (int town = 0; town < TOWNS; town++) {
                if (Integer.bitCount(land.towns[town]) > 1) {
                    found++;
                }
            }
            return found;
        }

        /** What each set takes of the cuts that are allowed, or BARRED where it can be no district. */
        private void fillPrices(boolean isBound) {
            int sets = 1 << land.places;
            for (int slot = 0; slot < sets; slot++) {
                int set = slot << shift;
                if (!court.mayBeDistrict(set)) {
                    prices[slot] = BARRED;
                } else {
                    prices[slot] = isBound ? scale.cutTowns(set) : 0;
                }
            }
        }

        /** Only what this land and this law can ask: the row is longer than most need. */
        private void clearTold() {
            int asked = (budget / WAYS_PER_SLOT + 1) << land.places;
            for (int slot = 0; slot < asked; slot++) {
                told[slot] = 0;
            }
        }

        /** In how many ways the rest can be parted into so many sets more, one set or more being chosen. */
        private int ways(int left, int rest, int purse) {
            if (left <= 1) {
                int price = prices[rest >>> shift];
                return price != BARRED && price <= purse ? 1 : 0;
            }
            if (rest == 0) {
                return 0;
            }
            int slot = slotOf(left, rest, purse);
            int lowBit = purse % WAYS_PER_SLOT * WAYS_BITS;
            // entries are one more than the ways: 0 is what is not told yet
            int entry = (int) (told[slot] >>> lowBit) & WAYS_MASK;
            if (entry == 0) {
                entry = 1 + waysAhead(left, rest, purse, 0);
                told[slot] |= (long) entry << lowBit;
            }
            return entry - 1;
        }

        /**
         * Each set that is chosen takes the least place of what is left: behind n of them the rest has
         * no place below n. So the rests behind one are half of all sets, those behind two a quarter,
         * and all of them together have room in a row of all sets.
         */
        private int slotOf(int left, int rest, int purse) {
            int rests = 1 << (land.places - (law.k - left));
            return ((purse / WAYS_PER_SLOT) << land.places) + rests + (rest >>> shift);
        }

        /** As ways(), but only with those next sets that come ahead of one; none is behind set 0. */
        private int waysAhead(int left, int rest, int purse, int end) {
            int sum = 0;
            int set = rest;
            int choices = choicesOf(rest);
            for (int i = 0; i < choices && set != end; i++) {
                sum += waysWith(left, rest, purse, set);
                set = following(set, rest);
            }
            return sum;
        }

        private int waysWith(int left, int rest, int purse, int set) {
            int price = prices[set >>> shift];
            if (left <= 1 || price == BARRED || price > purse) {
                return 0;
            }
            return ways(left - 1, rest & ~set, purse - price);
        }

        /** How many sets there are of the rest that have its least place. */
        private static int choicesOf(int rest) {
            return rest == 0 ? 0 : 1 << (Integer.bitCount(rest) - 1);
        }

        /** The set behind one in the order of SETS: the next lesser number within the rest. */
        private static int following(int set, int rest) {
            return (set - 1) & rest;
        }

        private void choose(int number) {
            int rest = everywhere;
            int purse = budget;
            int ahead = number;
            for (int left = law.k; left > 1; left--) {
                int set = rest;
                int choices = choicesOf(rest);
                for (int i = 0; i < choices; i++) {
                    int found = waysWith(left, rest, purse, set);
                    if (ahead < found) {
                        break;
                    }
                    ahead -= found;
                    set = following(set, rest);
                }
                chosen[law.k - left] = set;
                rest &= ~set;
                purse -= prices[set >>> shift];
            }
            chosen[law.k - 1] = rest;
        }

        private void visit(int left, int rest, int purse, int m) {
            if (left <= 1) {
                scale.shares[law.k - 1] = scale.shareOf(rest, m);
                note(scale.together(m));
                return;
            }
            int set = rest;
            int choices = choicesOf(rest);
            for (int i = 0; i < choices; i++) {
                if (waysWith(left, rest, purse, set) > 0) {
                    scale.shares[law.k - left] = scale.shareOf(set, m);
                    visit(left - 1, rest & ~set, purse - prices[set >>> shift], m);
                }
                set = following(set, rest);
            }
        }

        private void note(int value) {
            tally[1 + Integer.compare(value, mark)]++;
            if (lowest == NO_CLASS || value < lowest) {
                lowest = value;
            }
        }
    }

    /** Steps and walks by numbers drawn from a seed. */
    private static final class Walker {
        private static final int LOWEST = 3, GREATEST = 4, CHANGED = 5;

        int seed;
        boolean hasWalked;
        final int[] sights;
        private final Land land;
        private final Court court;
        private final Scale scale;
        private final Parting trial;
        private final int[] tree;
        private final int[] clumps;
        private final int[] row;

        Walker(Land land, Court court, Scale scale) {
            this.land = land;
            this.court = court;
            this.scale = scale;
            sights = new int[SEEN_ROWS];
            trial = new Parting();
            tree = new int[MOST_PLACES];
            clumps = new int[MOST_PLACES];
            row = new int[MOST_BORDERS];
        }

        /** A walk from a lawful parting, which stays as it is; what it sees is told in sights. */
        void roam(Parting parting, int steps, int m) {
            trial.become(parting);
            int mark = scale.weigh(parting, m);
            int value = mark;
            Arrays.fill(sights, 0);
            for (int i = 0; i < steps; i++) {
                if (takeStep(trial)) {
                    sights[CHANGED]++;
                    value = scale.weigh(trial, m);
                }
                sights[1 + Integer.compare(value, mark)]++;
                sights[LOWEST] = i == 0 ? value : Math.min(sights[LOWEST], value);
                sights[GREATEST] = i == 0 ? value : Math.max(sights[GREATEST], value);
            }
            hasWalked = true;
        }

        /** A step from a lawful parting: whether it is another one then. */
        boolean takeStep(Parting parting) {
            int crossing = drawCrossing(parting);
            if (crossing == NONE) {
                return false;
            }
            int here = parting.where[land.from[crossing]];
            int there = parting.where[land.to[crossing]];
            int lesser = Math.min(here, there);
            int other = Math.max(here, there);
            int was = parting.sets[lesser];
            int melted = was | parting.sets[other];
            int leading = drawLeadingPart(melted);
            if (leading == 0 || leading == was) {
                return false;
            }
            parting.deal(lesser, leading);
            parting.deal(other, melted & ~leading);
            if (court.allows(parting)) {
                return true;
            }
            parting.deal(lesser, was);
            parting.deal(other, melted & ~was);
            return false;
        }

        /** The part with the least place, of a tree parted at a seam; empty if there is no seam. */
        private int drawLeadingPart(int melted) {
            int drawn = drawOrder(melted);
            growTree(drawn);
            int seams = findSeams(melted);
            if (seams == 0) {
                return 0;
            }
            int part = partBefore(row[draw() % seams], melted);
            return Sets.has(part, Sets.first(melted)) ? part : melted & ~part;
        }

        private int draw() {
            seed = seed * 1103515245 + 12345;
            return seed >>> 16;
        }

        /** A border between two districts; NONE, and nothing drawn, if there is none. */
        private int drawCrossing(Parting parting) {
            int crossings = 0;
            for (int border = 0; border < land.borders; border++) {
                if (parting.where[land.from[border]] != parting.where[land.to[border]]) {
                    row[crossings] = border;
                    crossings++;
                }
            }
            return crossings == 0 ? NONE : row[draw() % crossings];
        }

        /** Puts the borders within a set into the row in order of numbers drawn: how many they are. */
        private int drawOrder(int melted) {
            int drawn = 0;
            for (int border = 0; border < land.borders; border++) {
                if (land.isInside(border, melted)) {
                    insert(draw() * MOST_BORDERS + border, drawn);
                    drawn++;
                }
            }
            return drawn;
        }

        private void insert(int key, int filled) {
            int slot = filled;
            for (; slot > 0 && row[slot - 1] > key; slot--) {
                row[slot] = row[slot - 1];
            }
            row[slot] = key;
        }

        private void growTree(int drawn) {
            for (int place = 0; place < MOST_PLACES; place++) {
                tree[place] = 0;
                clumps[place] = Sets.only(place);
            }
            for (int i = 0; i < drawn; i++) {
                int border = row[i] % MOST_BORDERS;
                if (!Sets.has(clumps[land.from[border]], land.to[border])) {
                    join(land.from[border], land.to[border]);
                }
            }
        }

        private void join(int a, int b) {
            tree[a] |= Sets.only(b);
            tree[b] |= Sets.only(a);
            int clump = clumps[a] | clumps[b];
            for (int place = 0; place < MOST_PLACES; place++) {
                if (Sets.has(clump, place)) {
                    clumps[place] = clump;
                }
            }
        }

        /** Puts the seams into the row: how many they are. */
        private int findSeams(int melted) {
            int seams = 0;
            int whole = Sets.sum(land.people, melted);
            for (int border = 0; border < land.borders; border++) {
                // two places have one border at most, so the tree's neighbours tell its borders
                if (Sets.has(tree[land.from[border]], land.to[border])) {
                    int part = Sets.sum(land.people, partBefore(border, melted));
                    if (court.fits(part) && court.fits(whole - part)) {
                        row[seams] = border;
                        seams++;
                    }
                }
            }
            return seams;
        }

        /** The part of the tree with a border's first place: a tree reaches it without the second. */
        private int partBefore(int border, int melted) {
            int without = melted & ~Sets.only(land.to[border]);
            return Sets.spread(tree, without, Sets.only(land.from[border]));
        }
    }

    /** Moves single places for a lesser edge. */
    private static final class Improver {
        // no edge is longer than all borders, and each move makes it shorter
        private static final int MOST_MOVES = MOST_BORDERS * MOST_LENGTH;

        private final Land land;
        private final Law law;
        private final Court court;

        Improver(Land land, Law law, Court court) {
            this.land = land;
            this.law = law;
            this.court = court;
        }

        int improve(Parting parting) {
            int moves = 0;
            while (moves < MOST_MOVES && moveOne(parting)) {
                moves++;
            }
            return moves;
        }

        private boolean moveOne(Parting parting) {
            for (int place = 0; place < land.places; place++) {
                int home = parting.where[place];
                for (int district = 0; district < law.k; district++) {
                    if (isShorter(parting, place, district)) {
                        parting.move(place, district);
                        if (court.allows(parting)) {
                            return true;
                        }
                        parting.move(place, home);
                    }
                }
            }
            return false;
        }

        /** A move makes borders with the old district part of the edge, and those with the new one not. */
        private boolean isShorter(Parting parting, int place, int district) {
            int home = parting.where[place];
            return district != home
                && land.contact(place, parting.sets[district]) > land.contact(place, parting.sets[home]);
        }
    }

    /** Finds the lawful parting that moves the fewest people. */
    private static final class Mender {
        private final Land land;
        private final Law law;
        private final Court court;
        private final Parting trial;
        private final Parting best;
        private int fewest;
        private int bestMoves;

        Mender(Land land, Law law, Court court) {
            this.land = land;
            this.law = law;
            this.court = court;
            trial = new Parting();
            best = new Parting();
        }

        /** Moves up to so many places: how many people are elsewhere then. */
        int repair(Parting parting, int n) {
            fewest = Integer.MAX_VALUE;
            bestMoves = 0;
            trial.become(parting);
            for (int moves = 0; moves <= n; moves++) {
                tryMoves(moves, moves, 0, 0);
            }
            if (fewest == Integer.MAX_VALUE) {
                return NO_MENDING;
            }
            parting.become(best);
            return fewest;
        }

        /** Tries all partings with just so many moves, of which some are left, of places from one on. */
        private void tryMoves(int moves, int left, int start, int moved) {
            if (moved > fewest) {
                return;
            }
            if (left <= 0) {
                if (isBetter(moves, moved) && court.allows(trial)) {
                    fewest = moved;
                    bestMoves = moves;
                    best.become(trial);
                }
                return;
            }
            for (int place = start; place < land.places; place++) {
                int home = trial.where[place];
                for (int district = 0; district < law.k; district++) {
                    if (district != home) {
                        trial.move(place, district);
                        tryMoves(moves, left - 1, place + 1, moved + land.people[place]);
                    }
                }
                trial.move(place, home);
            }
        }

        private boolean isBetter(int moves, int moved) {
            return moved < fewest || moved == fewest && moves == bestMoves && trial.comesAhead(best);
        }
    }
}
