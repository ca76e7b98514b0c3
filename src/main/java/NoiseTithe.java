/**
 * A bishopric takes a tenth of all sound, measured by the ripples in a jar of water on the altar.
 *
 * <p>Everything that a call needs is made in the constructor and used again, since all objects of a
 * run live in one small room.
 */
public final class NoiseTithe {
    public static final int BAD = -1, FULL = -2, FINDING = -3, STATE = -4, SPENT = -6, NONE = -9;

    private static final int NOTHING = 1, BEYOND = 2, UNLIKE = 3, NOUGHT = 4, SIZE = 5;

    private static final int ROWS = 6, ROW_SIZE = 40;
    private static final int TEXTS = 4, TEXT_SIZE = 80, BLANK = 32;
    private static final int KEPT_STREETS = 3;
    private static final int MOST_HOUSES = 8, MOST_HOURS = 40, JAR_HOLDS = 60;
    private static final int MOST_PAID = 999, GREATEST_RISE = 200;
    private static final int CRICKET_SIDES = 12;

    private final Cells[] rows = new Cells[ROWS];
    private final Cells[] texts = new Cells[TEXTS];
    private final Street street = new Street();
    private final Street[] keptStreets = new Street[KEPT_STREETS];
    private final Sets sets = new Sets();
    private final Fraction fraction = new Fraction();
    private final int[] findingCounts = new int[SIZE + 1];
    private int latestFinding = 0;
    private int told = 0;

    public NoiseTithe() {
        for (int r = 0; r < rows.length; r++) {
            rows[r] = new Cells(ROW_SIZE);
        }
        for (int t = 0; t < texts.length; t++) {
            texts[t] = new Cells(TEXT_SIZE);
        }
        for (int k = 0; k < keptStreets.length; k++) {
            keptStreets[k] = new Street();
        }
    }

    // ---- 1 rows, texts, streets

    public int row(int r, int n) {
        if (!isRow(r) || n > ROW_SIZE) {
            return BAD;
        }
        if (n < 0) {
            return found(SIZE);
        }
        rows[r].renew(n, 0);
        return n;
    }

    public int lay(int r, int i, int v) {
        if (!isRow(r)) {
            return BAD;
        }
        int refusal = refusalOfPlace(rows[r], i);
        if (refusal != 0) {
            return refusal;
        }
        int was = rows[r].get(i);
        rows[r].set(i, v);
        return tell(was, 1);
    }

    public int at(int r, int i) {
        if (!isRow(r)) {
            return BAD;
        }
        int refusal = refusalOfPlace(rows[r], i);
        return refusal != 0 ? refusal : tell(rows[r].get(i), 1);
    }

    public int tear(int r) {
        if (!isRow(r)) {
            return BAD;
        }
        if (rows[r].isMissing()) {
            return found(NOTHING);
        }
        rows[r].remove();
        return 1;
    }

    public int copy(int r, int i, int to, int j, int n) {
        if (!isRow(r) || !isRow(to)) {
            return BAD;
        }
        if (n < 0) {
            return found(SIZE);
        }
        if (rows[r].isMissing() || rows[to].isMissing()) {
            return found(NOTHING);
        }
        if (!rows[r].hasSpan(i, n) || !rows[to].hasSpan(j, n)) {
            return found(BEYOND);
        }
        rows[to].take(rows[r], i, j, n);
        return 1;
    }

    public int mean(int r) {
        if (!isRow(r)) {
            return BAD;
        }
        Cells row = rows[r];
        if (row.isMissing()) {
            return found(NOTHING);
        }
        if (row.size == 0) {
            return found(NOUGHT);
        }
        return tell((int) (row.sum() / row.size), 1);
    }

    public int text(int t, int n) {
        if (!isText(t) || n > TEXT_SIZE) {
            return BAD;
        }
        if (n < 0) {
            return found(SIZE);
        }
        texts[t].renew(n, BLANK);
        return n;
    }

    public int put(int t, int i, int v) {
        if (!isText(t)) {
            return BAD;
        }
        int refusal = refusalOfPlace(texts[t], i);
        if (refusal != 0) {
            return refusal;
        }
        int was = texts[t].get(i);
        texts[t].set(i, (byte) v);
        return was + 1000;
    }

    public int fault(int t) {
        if (!isText(t)) {
            return BAD;
        }
        if (texts[t].isMissing()) {
            return found(NOTHING);
        }
        return Grammar.faultOf(texts[t]);
    }

    public int street(int t) {
        if (!isText(t)) {
            return BAD;
        }
        if (texts[t].isMissing()) {
            return found(NOTHING);
        }
        if (Grammar.faultOf(texts[t]) != NONE) {
            return STATE;
        }
        for (int k = 0; k < keptStreets.length; k++) {
            keptStreets[k].clear();
        }
        Grammar.build(texts[t], street);
        return street.houseCount;
    }

    public int house(int i, int what) {
        if (!street.hasHouse(i) || !isWithin(what, 0, 4)) {
            return BAD;
        }
        return tell(street.trait(i, what), 1);
    }

    public int mark(int i, int kind) {
        if (!street.hasHouse(i) || !isWithin(kind, Kind.FORGE.number, Kind.CHOIR.number)) {
            return BAD;
        }
        House house = street.houses[i];
        if (!house.kind.isOf(kind)) {
            return found(UNLIKE);
        }
        if (kind == Kind.FORGE.number) {
            return street.lesserRipples(i);
        }
        if (kind == Kind.MUFFLED.number) {
            return house.loud - house.sound();
        }
        if (kind == Kind.BELLS.number) {
            return house.made;
        }
        if (kind == Kind.MUTE.number) {
            return street.distance(i);
        }
        return street.owedBy(i);
    }

    public int altar(int v) {
        if (!isWithin(v, 0, 9)) {
            return BAD;
        }
        if (street.houseCount == 0) {
            return STATE;
        }
        int was = street.altarPlace;
        street.altarPlace = v;
        return was;
    }

    public int wall(int i, int v) {
        if (!street.hasHouse(i) || !isWithin(v, 0, 99)) {
            return BAD;
        }
        int was = street.houses[i].wall;
        street.houses[i].wall = v;
        return was;
    }

    // ---- 2 hours, tithes

    public int hour(int set) {
        if (!street.hasSet(set)) {
            return BAD;
        }
        if (street.houseCount == 0) {
            return STATE;
        }
        if (street.hourCount >= MOST_HOURS) {
            return FULL;
        }
        int ranOver = street.ring(set);
        return tell(ranOver, street.water);
    }

    public int undo(int from) {
        if (!isWithin(from, 0, street.hourCount)) {
            return BAD;
        }
        int undone = street.hourCount - from;
        street.goBackTo(from);
        return undone;
    }

    public int jar() {
        return tell(street.ranOver, street.water);
    }

    public int loud(int hour) {
        if (hour < 0) {
            return BAD;
        }
        if (hour >= street.hourCount) {
            return found(BEYOND);
        }
        return tell(street.past[hour].rose, street.past[hour].set);
    }

    public int made(int i) {
        if (!street.hasHouse(i)) {
            return BAD;
        }
        return street.houses[i].made;
    }

    public int tithe(int i) {
        if (!street.hasHouse(i)) {
            return BAD;
        }
        return tell(street.titheOf(i), 1);
    }

    public int pay(int i, int v) {
        if (!street.hasHouse(i) || !isWithin(v, 0, 99)) {
            return BAD;
        }
        House house = street.houses[i];
        if (house.paid + v > MOST_PAID) {
            return SPENT;
        }
        house.paid += v;
        return house.paid;
    }

    public int due() {
        int together = 0;
        int greatest = 0;
        int first = NONE;
        for (int i = 0; i < street.houseCount; i++) {
            int tithe = street.titheOf(i);
            together += Math.max(tithe, 0);
            if (tithe > greatest) {
                greatest = tithe;
                first = i;
            }
        }
        return tell(first, together);
    }

    public int keep(int k) {
        if (!isKeptPlace(k)) {
            return BAD;
        }
        if (street.houseCount == 0) {
            return STATE;
        }
        keptStreets[k].becomeLike(street);
        return street.hourCount;
    }

    public int on(int k) {
        if (!isKeptPlace(k)) {
            return BAD;
        }
        if (isMissing(keptStreets[k])) {
            return found(NOTHING);
        }
        street.becomeLike(keptStreets[k]);
        return street.hourCount;
    }

    // ---- 3 who was loud

    public int fits(int v) {
        if (!isRise(v)) {
            return BAD;
        }
        sets.lookAt(street);
        int all = sets.howManyFit(v);
        if (all == 0) {
            return NONE;
        }
        return tell(sets.leastFitting(v), all);
    }

    public int sure(int v) {
        if (!isRise(v)) {
            return BAD;
        }
        sets.lookAt(street);
        if (sets.howManyFit(v) == 0) {
            return found(NOUGHT);
        }
        return tell(street.allHouses() & ~sets.inAnyFitting(v), sets.inAllFitting(v));
    }

    public int odds(int i, int v) {
        if (!street.hasHouse(i) || !isRise(v)) {
            return BAD;
        }
        sets.lookAt(street);
        int all = sets.howManyFit(v);
        if (all == 0) {
            return found(NOUGHT);
        }
        int with = sets.howManyFitWith(i, v);
        fraction.become(with, all);
        return with;
    }

    public int thunder(int v, int w) {
        if (!isRise(v) || !isWithin(w, 1, 50)) {
            return BAD;
        }
        sets.lookAt(street);
        int alone = sets.howManyFit(v) > 0 ? 1 : 0;
        int withThunder = sets.howManyFit(v - w) > 0 ? 2 : 0;
        return alone + withThunder;
    }

    public int joined(int r) {
        if (!isRow(r)) {
            return BAD;
        }
        Cells row = rows[r];
        if (row.isMissing()) {
            return found(NOTHING);
        }
        if (row.size == 0) {
            return found(SIZE);
        }
        for (int k = 0; k < row.size; k++) {
            if (!isRise(row.get(k))) {
                return found(UNLIKE);
            }
        }
        sets.lookAt(street);
        return sets.waysToJoin(row);
    }

    public int silence(int v) {
        if (!isRise(v)) {
            return BAD;
        }
        sets.lookAt(street);
        int all = sets.howManyFit(v);
        if (all == 0) {
            return found(NOUGHT);
        }
        int nearest = NONE;
        int inNearest = 0;
        for (int i = 0; i < street.houseCount; i++) {
            int with = sets.howManyFitWith(i, v);
            if (nearest == NONE || Math.abs(2 * with - all) < Math.abs(2 * inNearest - all)) {
                nearest = i;
                inNearest = with;
            }
        }
        return nearest == NONE ? NONE : tell(inNearest, nearest);
    }

    public int rises() {
        if (street.houseCount == 0) {
            return STATE;
        }
        sets.lookAt(street);
        return tell(sets.greatestRise(), sets.unlikeRises());
    }

    // ---- 4 cheapest, together

    public int wedding(int v) {
        if (!isRise(v)) {
            return BAD;
        }
        sets.lookAt(street);
        int set = sets.cheapestSounding(street, v);
        return set < 0 ? NONE : tell(set, sets.ripplesOf(set));
    }

    public int feathers(int set, int n, int r) {
        if (!street.hasSet(set) || !isWithin(n, 0, 20) || !isRow(r)) {
            return BAD;
        }
        if (street.houseCount == 0) {
            return STATE;
        }
        Cells laid = rows[r];
        laid.renew(street.houseCount, 0);
        int together = street.ripplesOf(set);
        for (int k = 0; k < n; k++) {
            int i = street.rippleMostBehind(set, laid);
            if (i >= 0) {
                laid.set(i, laid.get(i) + 1);
                together--;
            }
        }
        return together;
    }

    public int most() {
        sets.lookAt(street);
        int set = sets.mostHouses(JAR_HOLDS - street.water);
        return tell(set, Integer.bitCount(set));
    }

    public int hours(int set, int c) {
        if (!street.hasSet(set) || !isWithin(c, 1, 200)) {
            return BAD;
        }
        sets.lookAt(street);
        for (int i = 0; i < street.houseCount; i++) {
            if (contains(set, i) && street.ripple(i) > c) {
                return NONE;
            }
        }
        int fewest = sets.fewestHours(set, c);
        return tell(sets.firstHour(set, c), fewest);
    }

    public int year(int r) {
        if (!isRow(r)) {
            return BAD;
        }
        if (street.houseCount == 0) {
            return STATE;
        }
        Cells row = rows[r];
        if (row.isMissing()) {
            return found(NOTHING);
        }
        for (int k = 0; k < row.size; k++) {
            if (!street.hasSet(row.get(k))) {
                return found(UNLIKE);
            }
        }
        int water = 0;
        for (int k = 0; k < row.size; k++) {
            int risen = water + street.ripplesOf(row.get(k));
            if (risen > JAR_HOLDS) {
                return tell(water, k);
            }
            water = street.leaked(risen);
        }
        return tell(water, row.size);
    }

    // ---- 5 debts

    public int debt(int i, int j, int v) {
        if (!street.hasHouse(i) || !street.hasHouse(j) || i == j || !isWithin(v, 0, 99)) {
            return BAD;
        }
        int was = street.debts[i][j];
        street.debts[i][j] = v;
        return was;
    }

    public int balance(int i) {
        if (!street.hasHouse(i)) {
            return BAD;
        }
        return tell(street.balanceOf(i), 1);
    }

    public int payments() {
        sets.lookAt(street);
        return sets.fewestPayments(street);
    }

    public int net() {
        return street.netDebts();
    }

    // ---- 6 crickets

    public int crickets(int n, int seed) {
        if (!isWithin(n, 1, 60) || !isWithin(seed, 1, 2147483646)) {
            return BAD;
        }
        if (street.houseCount == 0) {
            return STATE;
        }
        int lot = seed;
        int all = 0;
        int mostInANight = 0;
        int nightOfMost = 0;
        for (int night = 0; night < n; night++) {
            int inNight = 0;
            for (int i = 0; i < street.houseCount; i++) {
                if (!street.houses[i].isMute()) {
                    lot = lotBehind(lot);
                    inNight += lot % CRICKET_SIDES < street.houses[i].loud ? 1 : 0;
                }
            }
            all += inNight;
            if (inNight > mostInANight) {
                mostInANight = inNight;
                nightOfMost = night;
            }
        }
        return tell(nightOfMost, all);
    }

    public int sings() {
        if (street.houseCount == 0) {
            return STATE;
        }
        long silent = 1;
        long all = 1;
        for (int i = 0; i < street.houseCount; i++) {
            if (!street.houses[i].isMute()) {
                silent *= CRICKET_SIDES - street.houses[i].loud;
                all *= CRICKET_SIDES;
            }
        }
        fraction.become(all - silent, all);
        return 1;
    }

    // ---- 7 what is told

    public int asked() {
        return told;
    }

    public long upper() {
        return fraction.top;
    }

    public long lower() {
        return fraction.bottom;
    }

    public int count(int what) {
        switch (what) {
            case 0:
                return street.houseCount;
            case 1:
                return street.hourCount;
            case 2:
                return street.howManyOf(Kind.MUFFLED.number);
            case 3:
                return street.howManyOf(Kind.BELLS.number);
            case 4:
                return street.howManyExempt();
            case 5:
                return howManyKept();
            case 6:
                return howManyThere(rows);
            case 7:
                return howManyThere(texts);
            default:
                return BAD;
        }
    }

    public int finding() {
        return latestFinding;
    }

    public int findings(int f) {
        if (!isWithin(f, NOTHING, SIZE)) {
            return BAD;
        }
        return findingCounts[f];
    }

    public long digest() {
        long h = 17;
        for (int what = 0; what <= 7; what++) {
            h = mixed(h, count(what));
        }
        h = street.mixedInto(h);
        for (int k = 0; k < keptStreets.length; k++) {
            h = mixed(h, isMissing(keptStreets[k]) ? -1 : keptStreets[k].hourCount);
        }
        for (int r = 0; r < rows.length; r++) {
            h = rows[r].mixedInto(h);
        }
        for (int t = 0; t < texts.length; t++) {
            h = texts[t].mixedInto(h);
        }
        return h;
    }

    // ---- what the calls share

    private int tell(int what, int answer) {
        told = what;
        return answer;
    }

    private int found(int f) {
        latestFinding = f;
        if (isWithin(f, NOTHING, SIZE)) {
            findingCounts[f]++;
        }
        return FINDING;
    }

    /** 0: none. */
    private int refusalOfPlace(Cells cells, int i) {
        if (cells.isMissing()) {
            return found(NOTHING);
        }
        return cells.has(i) ? 0 : found(BEYOND);
    }

    private boolean isRow(int r) {
        return r >= 0 && r < rows.length;
    }

    private boolean isText(int t) {
        return t >= 0 && t < texts.length;
    }

    private boolean isKeptPlace(int k) {
        return k >= 0 && k < keptStreets.length;
    }

    private int howManyKept() {
        int n = 0;
        for (int k = 0; k < keptStreets.length; k++) {
            n += isMissing(keptStreets[k]) ? 0 : 1;
        }
        return n;
    }

    /** Only a STREET with HOUSES is ever kept, so one without any stands for a missing one. */
    private static boolean isMissing(Street kept) {
        return kept.houseCount == 0;
    }

    private static int howManyThere(Cells[] all) {
        int n = 0;
        for (int k = 0; k < all.length; k++) {
            n += all[k].isMissing() ? 0 : 1;
        }
        return n;
    }

    private static boolean isWithin(int v, int least, int greatest) {
        return v >= least && v <= greatest;
    }

    private static boolean isRise(int v) {
        return isWithin(v, 0, GREATEST_RISE);
    }

    private static boolean contains(int set, int i) {
        return (set >> i & 1) == 1;
    }

    private static int lotBehind(int lot) {
        return (int) (48271L * lot % 2147483647L);
    }

    private static long mixed(long h, long v) {
        return 31 * h + v;
    }

    /** A ROW, or the bytes of a TEXT: missing, or some of the places that it could have. */
    private static final class Cells {
        private static final int MISSING = -1;

        private final int[] cells;
        private int size = MISSING;

        Cells(int room) {
            cells = new int[Math.max(room, 0)];
        }

        boolean isMissing() {
            return size == MISSING;
        }

        boolean has(int i) {
            return i >= 0 && i < size;
        }

        /** Written so that no sum of place and length can run over. */
        boolean hasSpan(int i, int n) {
            return n >= 0 && i >= 0 && i <= size - n;
        }

        int get(int i) {
            return has(i) ? cells[i] : 0;
        }

        void set(int i, int v) {
            if (has(i)) {
                cells[i] = v;
            }
        }

        void renew(int n, int v) {
            size = Math.max(0, Math.min(n, cells.length));
            for (int i = 0; i < size; i++) {
                cells[i] = v;
            }
        }

        void remove() {
            size = MISSING;
        }

        void take(Cells from, int i, int j, int n) {
            if (from.hasSpan(i, n) && hasSpan(j, n)) {
                System.arraycopy(from.cells, i, cells, j, n);
            }
        }

        long sum() {
            long sum = 0;
            for (int i = 0; i < size; i++) {
                sum += cells[i];
            }
            return sum;
        }

        long mixedInto(long ahead) {
            long h = mixed(ahead, size);
            for (int i = 0; i < size; i++) {
                h = mixed(h, cells[i]);
            }
            return h;
        }
    }

    /** The KINDS. Sound is told in halves of LOUD, as the muffled let half of it out. */
    private enum Kind {
        HOUSE(0, 0, 2),
        FORGE(1, 0, 4),
        MUFFLED(2, 0, 1),
        BELLS(3, 0, 2),
        MUTE(4, 2, 0),
        CHOIR(5, 3, 2);

        private final int number;
        private final int parent;
        private final int halves;

        Kind(int number, int parent, int halves) {
            this.number = number;
            this.parent = parent;
            this.halves = halves;
        }

        boolean isOf(int kind) {
            return number == kind || parent == kind;
        }

        /** The KIND that a letter stands for, or null. */
        static Kind byLetter(int letter) {
            switch (letter) {
                case 'h':
                    return HOUSE;
                case 'f':
                    return FORGE;
                case 'm':
                    return MUFFLED;
                case 'b':
                    return BELLS;
                case 'u':
                    return MUTE;
                case 'c':
                    return CHOIR;
                default:
                    return null;
            }
        }
    }

    private static final class House {
        private Kind kind = Kind.HOUSE;
        private int loud;
        private int wall;
        private int made;
        private int paid;

        int sound() {
            return loud * kind.halves / 2;
        }

        boolean isMute() {
            return kind == Kind.MUTE;
        }

        void becomeLike(House other) {
            kind = other.kind;
            loud = other.loud;
            wall = other.wall;
            made = other.made;
            paid = other.paid;
        }
    }

    /** An HOUR that has been, with what undoing it needs: how things were ahead of it. */
    private static final class Hour {
        private final int[] madeAhead = new int[MOST_HOUSES];
        private int set;
        private int rose;
        private int waterAhead;
        private int ranOverAhead;

        void becomeLike(Hour other) {
            System.arraycopy(other.madeAhead, 0, madeAhead, 0, MOST_HOUSES);
            set = other.set;
            rose = other.rose;
            waterAhead = other.waterAhead;
            ranOverAhead = other.ranOverAhead;
        }
    }

    /** HOUSES, THE ALTAR, THE JAR, the HOURS that have been, and who owes whom. */
    private static final class Street {
        private final House[] houses = new House[MOST_HOUSES];
        private final Hour[] past = new Hour[MOST_HOURS];
        private final int[][] debts = new int[MOST_HOUSES][MOST_HOUSES];
        private int houseCount;
        private int hourCount;
        private int altarPlace;
        private int leak;
        private int water;
        private int ranOver;

        Street() {
            for (int i = 0; i < houses.length; i++) {
                houses[i] = new House();
            }
            for (int k = 0; k < past.length; k++) {
                past[k] = new Hour();
            }
        }

        void clear() {
            houseCount = 0;
            hourCount = 0;
            altarPlace = 0;
            leak = 0;
            water = 0;
            ranOver = 0;
        }

        void add(Kind kind, int loud, int wall) {
            if (houseCount >= MOST_HOUSES) {
                return;
            }
            House house = houses[houseCount];
            house.kind = kind;
            house.loud = loud;
            house.wall = wall;
            house.made = 0;
            house.paid = 0;
            for (int i = 0; i < MOST_HOUSES; i++) {
                debts[houseCount][i] = 0;
            }
            houseCount++;
        }

        void becomeLike(Street other) {
            for (int i = 0; i < MOST_HOUSES; i++) {
                houses[i].becomeLike(other.houses[i]);
                System.arraycopy(other.debts[i], 0, debts[i], 0, MOST_HOUSES);
            }
            for (int k = 0; k < MOST_HOURS; k++) {
                past[k].becomeLike(other.past[k]);
            }
            houseCount = other.houseCount;
            hourCount = other.hourCount;
            altarPlace = other.altarPlace;
            leak = other.leak;
            water = other.water;
            ranOver = other.ranOver;
        }

        boolean hasHouse(int i) {
            return i >= 0 && i < houseCount;
        }

        int allHouses() {
            return (1 << houseCount) - 1;
        }

        boolean hasSet(int set) {
            return (set & ~allHouses()) == 0;
        }

        int distance(int i) {
            return Math.abs(i - altarPlace);
        }

        int ripple(int i) {
            if (!hasHouse(i)) {
                return 0;
            }
            return Math.max(0, houses[i].sound() - houses[i].wall - distance(i));
        }

        int ripplesOf(int set) {
            int together = 0;
            for (int i = 0; i < houseCount; i++) {
                together += contains(set, i) ? ripple(i) : 0;
            }
            return together;
        }

        int trait(int i, int what) {
            if (!hasHouse(i)) {
                return 0;
            }
            switch (what) {
                case 0:
                    return houses[i].kind.number;
                case 1:
                    return houses[i].loud;
                case 2:
                    return houses[i].wall;
                case 3:
                    return houses[i].sound();
                default:
                    return ripple(i);
            }
        }

        int lesserRipples(int than) {
            int n = 0;
            for (int i = 0; i < houseCount; i++) {
                n += ripple(i) < ripple(than) ? 1 : 0;
            }
            return n;
        }

        int howManyOf(int kind) {
            int n = 0;
            for (int i = 0; i < houseCount; i++) {
                n += houses[i].kind.isOf(kind) ? 1 : 0;
            }
            return n;
        }

        /** The first HOUSE of a set with the greatest RIPPLE behind its feathers, or -1: all are 0. */
        int rippleMostBehind(int set, Cells feathersLaid) {
            int greatest = 0;
            int first = -1;
            for (int i = 0; i < houseCount; i++) {
                int left = ripple(i) - feathersLaid.get(i);
                if (contains(set, i) && left > greatest) {
                    greatest = left;
                    first = i;
                }
            }
            return first;
        }

        int leaked(int full) {
            return full - Math.min(leak, full);
        }

        /** One more HOUR: what ran over in it. */
        int ring(int set) {
            if (hourCount >= MOST_HOURS) {
                return 0;
            }
            Hour now = past[hourCount];
            now.set = set;
            now.waterAhead = water;
            now.ranOverAhead = ranOver;
            for (int i = 0; i < houseCount; i++) {
                now.madeAhead[i] = houses[i].made;
                houses[i].made += contains(set, i) ? ripple(i) : 0;
            }
            int wouldRise = ripplesOf(set);
            now.rose = Math.min(wouldRise, JAR_HOLDS - water);
            int over = wouldRise - now.rose;
            water = leaked(water + now.rose);
            ranOver += over;
            hourCount++;
            return over;
        }

        void goBackTo(int from) {
            if (from < 0 || from >= hourCount) {
                return;
            }
            Hour first = past[from];
            water = first.waterAhead;
            ranOver = first.ranOverAhead;
            for (int i = 0; i < houseCount; i++) {
                houses[i].made = first.madeAhead[i];
            }
            hourCount = from;
        }

        boolean isExempt(int i) {
            return hasHouse(i) && (houses[i].kind == Kind.BELLS
                    || houses[i].kind == Kind.CHOIR && owedBy(i) == 0);
        }

        int howManyExempt() {
            int n = 0;
            for (int i = 0; i < houseCount; i++) {
                n += isExempt(i) ? 1 : 0;
            }
            return n;
        }

        int titheOf(int i) {
            if (!hasHouse(i)) {
                return 0;
            }
            return (isExempt(i) ? 0 : houses[i].made / 10) - houses[i].paid;
        }

        int owedBy(int i) {
            int together = 0;
            for (int j = 0; j < houseCount && hasHouse(i); j++) {
                together += debts[i][j];
            }
            return together;
        }

        int balanceOf(int i) {
            int owedToIt = 0;
            for (int j = 0; j < houseCount && hasHouse(i); j++) {
                owedToIt += debts[j][i];
            }
            return owedToIt - owedBy(i);
        }

        int netDebts() {
            int less = 0;
            for (int i = 0; i < houseCount; i++) {
                for (int j = i + 1; j < houseCount; j++) {
                    int both = Math.min(debts[i][j], debts[j][i]);
                    debts[i][j] -= both;
                    debts[j][i] -= both;
                    less += 2 * both;
                }
            }
            return less;
        }

        long mixedInto(long ahead) {
            long h = mixed(ahead, houseCount == 0 ? 0 : altarPlace);
            h = mixed(h, houseCount == 0 ? 0 : leak);
            h = mixed(h, water);
            h = mixed(h, ranOver);
            for (int i = 0; i < houseCount; i++) {
                for (int what = 0; what <= 4; what++) {
                    h = mixed(h, trait(i, what));
                }
                h = mixed(h, houses[i].made);
                h = mixed(h, houses[i].paid);
                for (int j = 0; j < houseCount; j++) {
                    h = mixed(h, debts[i][j]);
                }
            }
            for (int k = 0; k < hourCount; k++) {
                h = mixed(h, past[k].set);
            }
            return h;
        }
    }

    /** The small language in which a TEXT tells a STREET. */
    private static final class Grammar {
        private static final int ITEM = 3;

        /** The first place at which a TEXT is no STREET, or NONE. */
        static int faultOf(Cells text) {
            int items = 0;
            int place = 0;
            while (place < text.size) {
                if (text.get(place) == BLANK) {
                    place++;
                } else if (!canBegin(text.get(place), items)) {
                    return place;
                } else {
                    int stop = endOfFigures(text, place + 1);
                    if (stop < place + ITEM) {
                        return stop;
                    }
                    items++;
                    place += ITEM;
                }
            }
            return items == 0 ? text.size : NONE;
        }

        /** Makes a STREET by a TEXT without a FAULT. */
        static void build(Cells text, Street street) {
            street.clear();
            int place = 0;
            while (place < text.size) {
                if (text.get(place) == BLANK) {
                    place++;
                } else {
                    buildItem(text, place, street);
                    place += ITEM;
                }
            }
        }

        private static void buildItem(Cells text, int place, Street street) {
            int first = text.get(place + 1) - '0';
            int second = text.get(place + 2) - '0';
            Kind kind = Kind.byLetter(text.get(place));
            if (kind == null) {
                street.altarPlace = first;
                street.leak = second;
            } else {
                street.add(kind, first, second);
            }
        }

        /** The first place of an item's figures that is none, or the TEXT's end, or the item's. */
        private static int endOfFigures(Cells text, int from) {
            int place = from;
            while (place < from + ITEM - 1 && isFigure(text.get(place))) {
                place++;
            }
            return place;
        }

        private static boolean canBegin(int letter, int items) {
            if (items == 0) {
                return letter == 'a';
            }
            return items <= MOST_HOUSES && Kind.byLetter(letter) != null;
        }

        private static boolean isFigure(int c) {
            return c >= '0' && c <= '9';
        }
    }

    /** All sets of a STREET's HOUSES, each by its bits: what they come to together; 0 of none. */
    private static final class Sets {
        private final int[] ripples = new int[1 << MOST_HOUSES];
        private final int[] sums = new int[1 << MOST_HOUSES];
        private final int[] table = new int[1 << MOST_HOUSES];
        private int setCount = 1;
        private int houseCount = 0;
        private int mutes = 0;

        void lookAt(Street street) {
            houseCount = street.houseCount;
            setCount = 1 << houseCount;
            mutes = 0;
            for (int i = 0; i < houseCount; i++) {
                addHouse(ripples, i, street.ripple(i));
                mutes |= street.houses[i].isMute() ? 1 << i : 0;
            }
        }

        /** Sums of sets with HOUSE i come from those of the sets of HOUSES ahead of it. */
        private static void addHouse(int[] sumOf, int i, int value) {
            int bit = 1 << i;
            for (int set = 0; set < bit && bit + set < sumOf.length; set++) {
                sumOf[bit + set] = sumOf[set] + value;
            }
        }

        int ripplesOf(int set) {
            return set >= 0 && set < setCount ? ripples[set] : 0;
        }

        private boolean isFitting(int set, int v) {
            return (set & mutes) == 0 && ripples[set] == v;
        }

        int howManyFit(int v) {
            int n = 0;
            for (int set = 0; set < setCount; set++) {
                n += isFitting(set, v) ? 1 : 0;
            }
            return n;
        }

        int howManyFitWith(int i, int v) {
            int n = 0;
            for (int set = 0; set < setCount; set++) {
                n += isFitting(set, v) && contains(set, i) ? 1 : 0;
            }
            return n;
        }

        /** The least set that FITS, or -1. */
        int leastFitting(int v) {
            for (int set = 0; set < setCount; set++) {
                if (isFitting(set, v)) {
                    return set;
                }
            }
            return -1;
        }

        int inAllFitting(int v) {
            int common = setCount - 1;
            for (int set = 0; set < setCount; set++) {
                common &= isFitting(set, v) ? set : -1;
            }
            return common;
        }

        int inAnyFitting(int v) {
            int any = 0;
            for (int set = 0; set < setCount; set++) {
                any |= isFitting(set, v) ? set : 0;
            }
            return any;
        }

        /** No HOUSE at all, or one that is not of the set, joins it in one HOUR alone. */
        int waysToJoin(Cells rises) {
            int ways = 0;
            for (int set = 0; set < setCount; set++) {
                if ((set & mutes) != 0) {
                    continue;
                }
                int unlike = 0;
                int last = 0;
                for (int k = 0; k < rises.size; k++) {
                    int more = rises.get(k) - ripples[set];
                    if (more != 0) {
                        unlike++;
                        last = more;
                    }
                }
                if (unlike == 0) {
                    ways += 1 + rises.size * howManyBeside(set, 0);
                } else if (unlike == 1) {
                    ways += howManyBeside(set, last);
                }
            }
            return ways;
        }

        /** How many HOUSES that are no MUTE and not of a set have a RIPPLE. */
        private int howManyBeside(int set, int ripple) {
            int n = 0;
            for (int i = 0; i < houseCount; i++) {
                n += !contains(set | mutes, i) && ripples[1 << i] == ripple ? 1 : 0;
            }
            return n;
        }

        /** MUTE ones have no RIPPLE, so sets with them make no other rises than those without. */
        int unlikeRises() {
            for (int v = 0; v < table.length; v++) {
                table[v] = 0;
            }
            int n = 0;
            for (int set = 0; set < setCount; set++) {
                int v = ripples[set];
                if (v >= 0 && v < table.length && table[v] == 0) {
                    table[v] = 1;
                    n++;
                }
            }
            return n;
        }

        int greatestRise() {
            return ripples[setCount - 1];
        }

        /** The set of the least RIPPLES with a SOUND of v or more, or -1. */
        int cheapestSounding(Street street, int v) {
            for (int i = 0; i < houseCount; i++) {
                addHouse(sums, i, street.houses[i].sound());
            }
            int cheapest = -1;
            for (int set = 0; set < setCount; set++) {
                if (sums[set] >= v && (cheapest < 0 || ripples[set] < ripples[cheapest])) {
                    cheapest = set;
                }
            }
            return cheapest;
        }

        /** The least of the sets with the most HOUSES that are no MUTE and rise by no more than told. */
        int mostHouses(int rise) {
            int best = 0;
            for (int set = 0; set < setCount; set++) {
                boolean can = (set & mutes) == 0 && ripples[set] <= rise;
                if (can && Integer.bitCount(set) > Integer.bitCount(best)) {
                    best = set;
                }
            }
            return best;
        }

        /** The fewest HOURS for a set (no HOUSE of it alone is too much); the table has its parts'. */
        int fewestHours(int whole, int holds) {
            table[0] = 0;
            for (int set = 1; set < setCount; set++) {
                table[set] = MOST_HOUSES + 1;
                if ((set & ~whole) == 0) {
                    for (int part = set; part > 0; part = (part - 1) & set) {
                        if (ripples[part] <= holds) {
                            table[set] = Math.min(table[set], table[set - part] + 1);
                        }
                    }
                }
            }
            return whole >= 0 && whole < setCount ? table[whole] : 0;
        }

        /** The least set that can be the first of the fewest HOURS, by the table of fewestHours. */
        int firstHour(int whole, int holds) {
            for (int part = 1; part <= whole && whole < setCount; part++) {
                boolean can = (part & ~whole) == 0 && ripples[part] <= holds;
                if (can && table[whole - part] + 1 == table[whole]) {
                    return part;
                }
            }
            return 0;
        }

        /**
         * A group of HOUSES whose balances come to 0 needs one payment less than it has HOUSES, so
         * the more such groups, the fewer payments.
         */
        int fewestPayments(Street street) {
            for (int i = 0; i < houseCount; i++) {
                addHouse(sums, i, street.balanceOf(i));
            }
            table[0] = 0;
            for (int set = 1; set < setCount; set++) {
                int groups = 0;
                for (int i = 0; i < houseCount; i++) {
                    if (contains(set, i)) {
                        groups = Math.max(groups, table[set - (1 << i)]);
                    }
                }
                table[set] = groups + (sums[set] == 0 ? 1 : 0);
            }
            return houseCount - table[setCount - 1];
        }
    }

    /** A fraction in lowest terms. */
    private static final class Fraction {
        private static final int STEPS = 200;

        private long top = 0;
        private long bottom = 1;

        /** Both are 0 or more, and the lower one above 0. */
        void become(long upper, long lower) {
            long a = lower;
            long b = upper;
            for (int step = 0; step < STEPS && b != 0; step++) {
                long rest = a % b;
                a = b;
                b = rest;
            }
            if (a != 0) {
                top = upper / a;
                bottom = lower / a;
            }
        }
    }
}
