import java.util.Arrays;

/**
 * Statics of a stiff cap on piles: columns stand on the cap, wind tilts it, and it stays a plane; each pile carries a
 * share of the load in proportion to its stiffness, computed exactly with fractions.
 */
public final class PileShares {
    public static final int BAD = -1, STATE = -2, FULL = -3, NONE = -9;
    public static final long NO = -1000000000000000000L, NOT = -2000000000000000000L;

    private static final int PILES = 8, COLUMNS = 5, LETTERS = 160, ACTIONS = 6, SIGHTS = 6, IMAGES = 2;
    private static final int EDGE = 9, SIDE = 19, PLACES = 361;
    private static final int MOST_STIFF = 9, MOST_CAN = 99, MOST_LOAD = 99, MOST_WIND = 99, MOST_SEEN = 999;
    private static final int ROUNDS = 40, FIRST_UNKNOWN = 10;
    /** A share of the unknown load, rounded down, is one of these many numbers. */
    private static final int GROUPS = MOST_LOAD + 1;
    /** Euclid's way with two longs takes fewer steps than this. */
    private static final int EUCLID_STEPS = 100;

    private final Structure now = new Structure();
    private final Structure told = new Structure();
    private final Script script = new Script();
    private final Structure[] past = new Structure[ACTIONS];
    private int recorded;
    private final Structure[] images = new Structure[IMAGES];
    private final boolean[] kept = new boolean[IMAGES];
    private int unknown = FIRST_UNKNOWN;
    private final int[] seenPile = new int[SIGHTS];
    private final int[] seenShare = new int[SIGHTS];
    private int sights;
    private final int[] groups = new int[PILES * GROUPS];
    private final Distribution spread = new Distribution();

    public PileShares() {
        for (int i = 0; i < ACTIONS; i++) {
            past[i] = new Structure();
        }
        for (int i = 0; i < IMAGES; i++) {
            images[i] = new Structure();
        }
    }

    // ---- what is told

    public int type(int letter) {
        if (letter < 0 || letter > 255) {
            return BAD;
        }
        return script.append(letter) ? script.length : FULL;
    }

    public int clear() {
        int length = script.length;
        script.length = 0;
        return length;
    }

    public int tells() {
        int items = script.readInto(told);
        if (items < 0) {
            return items;
        }
        Structure.copy(told, now);
        script.length = 0;
        recorded = 0;
        unknown = FIRST_UNKNOWN;
        sights = 0;
        for (int i = 0; i < IMAGES; i++) {
            kept[i] = false;
        }
        return items;
    }

    // ---- what is done

    public int drives(int x, int y, int stiff, int can) {
        if (!isPlace(x, y) || !isPileKind(stiff, can)) {
            return BAD;
        }
        if (now.hasPileAt(x, y)) {
            return STATE;
        }
        if (now.piles >= PILES) {
            return FULL;
        }
        recordAction();
        now.addPile(x, y, stiff, can);
        return now.piles - 1;
    }

    public int loses(int p) {
        if (!isPile(p)) {
            return BAD;
        }
        if (!now.isIntact(p)) {
            return STATE;
        }
        recordAction();
        now.intact &= ~(1 << p);
        return Integer.bitCount(now.intact);
    }

    public int mends(int p) {
        if (!isPile(p)) {
            return BAD;
        }
        if (now.isIntact(p)) {
            return STATE;
        }
        recordAction();
        now.intact |= 1 << p;
        return Integer.bitCount(now.intact);
    }

    public int loads(int c, int load) {
        if (!isColumn(c) || load < 0 || load > MOST_LOAD) {
            return BAD;
        }
        int before = now.load[c];
        if (before == load) {
            return STATE;
        }
        recordAction();
        now.load[c] = load;
        return before;
    }

    public int moves(int c, int x, int y) {
        if (!isColumn(c) || !isPlace(x, y)) {
            return BAD;
        }
        if (now.columnX[c] == x && now.columnY[c] == y) {
            return STATE;
        }
        recordAction();
        now.columnX[c] = x;
        now.columnY[c] = y;
        return 1;
    }

    public int winds(int mx, int my) {
        if (mx < -MOST_WIND || mx > MOST_WIND || my < -MOST_WIND || my > MOST_WIND) {
            return BAD;
        }
        if (now.windX == mx && now.windY == my) {
            return STATE;
        }
        recordAction();
        now.windX = mx;
        now.windY = my;
        return 1;
    }

    public int undo() {
        if (recorded < 1 || recorded > ACTIONS) {
            return STATE;
        }
        recorded--;
        Structure.copy(past[recorded], now);
        return recorded;
    }

    // ---- as it stands

    public long pile(int p, int what) {
        if (!isPile(p) || what < 0 || what > 5) {
            return NO;
        }
        switch (what) {
            case 0:
                return now.x[p];
            case 1:
                return now.y[p];
            case 2:
                return now.stiff[p];
            case 3:
                return now.can[p];
            case 4:
                return now.isIntact(p) ? 1 : 0;
            default:
                spreadPresent();
                return spread.settled ? (spread.isActive(p) ? 1 : 0) : NONE;
        }
    }

    public long column(int c, int what) {
        if (!isColumn(c) || what < 0 || what > 2) {
            return NO;
        }
        switch (what) {
            case 0:
                return now.columnX[c];
            case 1:
                return now.columnY[c];
            default:
                return now.load[c];
        }
    }

    public long sum(int what) {
        switch (what) {
            case 0:
                return now.weight();
            case 1:
                return now.momentX();
            case 2:
                return now.momentY();
            case 3:
                return now.windX;
            case 4:
                return now.windY;
            default:
                return NO;
        }
    }

    public int sharing(int what) {
        if (what < 0 || what > 2) {
            return BAD;
        }
        spreadPresent();
        switch (what) {
            case 0:
                return spread.rounds;
            case 1:
                return spread.settled ? 1 : 0;
            default:
                return spread.settled ? spread.set & ~spread.active : NONE;
        }
    }

    public long share(int p, int what) {
        if (!isPile(p) || what < 0 || what > 2) {
            return NO;
        }
        spreadPresent();
        if (!spread.settled) {
            return NOT;
        }
        if (what == 2) {
            return spread.shareDown(p);
        }
        return inLowestTerms(spread.shareTop(p), spread.bottom(), what);
    }

    public long press(int x, int y, int what) {
        if (!isPlace(x, y) || what < 0 || what > 1) {
            return NO;
        }
        spreadPresent();
        if (!spread.settled) {
            return NOT;
        }
        return inLowestTerms(spread.plane.topAt(x, y), spread.bottom(), what);
    }

    public long most(int what) {
        if (what < 0 || what > 2) {
            return BAD;
        }
        spreadPresent();
        return greatestUse(what);
    }

    public long factor(int what) {
        if (what < 0 || what > 1) {
            return BAD;
        }
        spreadPresent();
        if (!spread.settled || spread.useTop() == 0) {
            return NONE;
        }
        return inLowestTerms(spread.useBottom(), spread.useTop(), what);
    }

    // ---- what would be

    public int kern(int x, int y) {
        if (!isPlace(x, y)) {
            return BAD;
        }
        if (!bracePresent()) {
            return NONE;
        }
        return spread.pullsNoPile(x, y) ? 1 : 0;
    }

    public int kerns(int what) {
        if (what < 0 || what > 1) {
            return BAD;
        }
        if (!bracePresent()) {
            return NONE;
        }
        int places = 0;
        int first = NONE;
        for (int place = 0; place < PLACES; place++) {
            if (spread.pullsNoPile(xOf(place), yOf(place))) {
                places++;
                if (first == NONE) {
                    first = place;
                }
            }
        }
        return what == 0 ? places : first;
    }

    public long without(int p, int what) {
        if (!isPile(p) || what < 0 || what > 2) {
            return BAD;
        }
        if (!now.isIntact(p)) {
            return STATE;
        }
        takePresent();
        spread.settleOn(now.intact & ~(1 << p));
        return greatestUse(what);
    }

    public int key() {
        takePresent();
        int key = NONE;
        long keyTop = 0;
        long keyBottom = 1;
        for (int p = 0; p < now.piles; p++) {
            if (!now.isIntact(p)) {
                continue;
            }
            spread.settleOn(now.intact & ~(1 << p));
            if (!spread.settled) {
                return p;
            }
            if (key == NONE || compareFractions(spread.useTop(), spread.useBottom(), keyTop, keyBottom) > 0) {
                key = p;
                keyTop = spread.useTop();
                keyBottom = spread.useBottom();
            }
        }
        return key;
    }

    public int extra(int stiff, int can) {
        if (!isPileKind(stiff, can)) {
            return BAD;
        }
        takePresent();
        spread.beginWith(now.intact);
        int best = NONE;
        long bestTop = 0;
        long bestBottom = 1;
        for (int place = 0; place < PLACES; place++) {
            int x = xOf(place);
            int y = yOf(place);
            if (now.hasPileAt(x, y)) {
                continue;
            }
            spread.putFurther(x, y, stiff, can);
            spread.settle();
            spread.takeFurtherAway();
            if (!spread.settled) {
                continue;
            }
            if (best == NONE || compareFractions(spread.useTop(), spread.useBottom(), bestTop, bestBottom) < 0) {
                best = place;
                bestTop = spread.useTop();
                bestBottom = spread.useBottom();
            }
        }
        return best;
    }

    public int odds(int x, int what) {
        if (x < 0 || x > 10 || what < 0 || what > 1) {
            return BAD;
        }
        takePresent();
        int intact = Integer.bitCount(now.intact);
        int standing = 0;
        for (int part = 0; part < 1 << PILES; part++) {
            if ((part & ~now.intact) != 0) {
                continue;
            }
            int remaining = Integer.bitCount(part);
            int weight = power(10 - x, remaining) * power(x, intact - remaining);
            if (weight > 0 && standsOn(part)) {
                standing += weight;
            }
        }
        return (int) inLowestTerms(standing, power(10, intact), what);
    }

    // ---- where it stands

    public int hunts(int h) {
        if (h < 1 || h > MOST_LOAD) {
            return BAD;
        }
        unknown = h;
        return dropSights();
    }

    public int sees(int p, int v) {
        if (!isPile(p) || v < 0 || v > MOST_SEEN) {
            return BAD;
        }
        if (sights < 0 || sights >= SIGHTS) {
            return FULL;
        }
        seenPile[sights] = p;
        seenShare[sights] = v;
        sights++;
        return sights;
    }

    public int forget() {
        return dropSights();
    }

    public int spots(int what) {
        if (what < 0 || what > 1) {
            return BAD;
        }
        spread.takePiles(now);
        spread.beginWith(now.intact);
        int spots = 0;
        int first = NONE;
        for (int place = 0; place < PLACES; place++) {
            if (isSpot(place)) {
                spots++;
                if (first == NONE) {
                    first = place;
                }
            }
        }
        return what == 0 ? spots : first;
    }

    public int ask() {
        spread.takePiles(now);
        spread.beginWith(now.intact);
        Arrays.fill(groups, 0);
        int spots = 0;
        for (int place = 0; place < PLACES; place++) {
            if (isSpot(place)) {
                spots++;
                groupShares();
            }
        }
        return spots > 1 ? pileWithSmallestLargestGroup() : NONE;
    }

    // ---- images

    public int keep(int image) {
        if (image < 0 || image >= IMAGES) {
            return BAD;
        }
        Structure.copy(now, images[image]);
        kept[image] = true;
        return now.piles;
    }

    public int back(int image) {
        if (image < 0 || image >= IMAGES) {
            return BAD;
        }
        if (!kept[image]) {
            return STATE;
        }
        Structure.copy(images[image], now);
        recorded = 0;
        return now.piles;
    }

    public int count(int what) {
        switch (what) {
            case 0:
                return now.piles;
            case 1:
                return Integer.bitCount(now.intact);
            case 2:
                return now.columns;
            case 3:
                return unknown;
            case 4:
                return sights;
            case 5:
                return script.length;
            case 6:
                return recorded;
            default:
                return BAD;
        }
    }

    // ---- the ranges

    private static boolean isPlace(int x, int y) {
        return x >= -EDGE && x <= EDGE && y >= -EDGE && y <= EDGE;
    }

    private static boolean isPileKind(int stiff, int can) {
        return stiff >= 1 && stiff <= MOST_STIFF && can >= 1 && can <= MOST_CAN;
    }

    private boolean isPile(int p) {
        return p >= 0 && p < now.piles;
    }

    private boolean isColumn(int c) {
        return c >= 0 && c < now.columns;
    }

    private static int xOf(int place) {
        return place / SIDE - EDGE;
    }

    private static int yOf(int place) {
        return place % SIDE - EDGE;
    }

    // ---- the parts of the calls above

    /** Is called before each action; the oldest recorded one makes room if there are as many as are allowed. */
    private void recordAction() {
        if (recorded >= ACTIONS) {
            Structure oldest = past[0];
            for (int i = 1; i < ACTIONS; i++) {
                past[i - 1] = past[i];
            }
            past[ACTIONS - 1] = oldest;
            recorded = ACTIONS - 1;
        }
        Structure.copy(now, past[recorded]);
        recorded++;
    }

    private int dropSights() {
        int dropped = sights;
        sights = 0;
        return dropped;
    }

    private void takePresent() {
        spread.takePiles(now);
        spread.bear(now.weight(), now.momentX(), now.momentY());
    }

    private void spreadPresent() {
        takePresent();
        spread.settleOn(now.intact);
    }

    private boolean bracePresent() {
        spread.takePiles(now);
        return spread.braceAll(now.intact);
    }

    private long greatestUse(int what) {
        if (!spread.settled) {
            return NONE;
        }
        return what == 2 ? spread.mostUsed : inLowestTerms(spread.useTop(), spread.useBottom(), what);
    }

    private boolean standsOn(int set) {
        spread.beginWith(set);
        spread.settle();
        return spread.settled && spread.useTop() <= spread.useBottom();
    }

    private boolean isSpot(int place) {
        spread.bear(unknown, unknown * xOf(place), unknown * yOf(place));
        spread.settle();
        if (!spread.settled) {
            return false;
        }
        for (int i = 0; i < sights; i++) {
            if (spread.shareDown(seenPile[i]) != seenShare[i]) {
                return false;
            }
        }
        return true;
    }

    private void groupShares() {
        for (int p = 0; p < now.piles; p++) {
            long share = spread.shareDown(p);
            if (share >= 0 && share < GROUPS) {
                groups[p * GROUPS + (int) share]++;
            }
        }
    }

    private int pileWithSmallestLargestGroup() {
        int best = NONE;
        int bestSize = 0;
        for (int p = 0; p < now.piles; p++) {
            if (!now.isIntact(p)) {
                continue;
            }
            int size = 0;
            for (int share = 0; share < GROUPS; share++) {
                size = Math.max(size, groups[p * GROUPS + share]);
            }
            if (best == NONE || size < bestSize) {
                best = p;
                bestSize = size;
            }
        }
        return best;
    }

    // ---- numbers

    private static int power(int base, int exponent) {
        int result = 1;
        for (int i = 0; i < exponent; i++) {
            result *= base;
        }
        return result;
    }

    /** The numerator (0) or the denominator (1) of a fraction whose bottom is above 0. */
    private static long inLowestTerms(long top, long bottom, int what) {
        long divisor = commonDivisor(Math.abs(top), Math.abs(bottom));
        if (divisor == 0) {
            return what;
        }
        return (what == 0 ? top : bottom) / divisor;
    }

    private static long commonDivisor(long one, long other) {
        for (int step = 0; step < EUCLID_STEPS && other != 0; step++) {
            long rest = one % other;
            one = other;
            other = rest;
        }
        return one;
    }

    /**
     * Compares two fractions that are not negative, by their quotients and then by what the rests make of them:
     * crosswise products could leave the range of long.
     */
    private static int compareFractions(long top, long bottom, long otherTop, long otherBottom) {
        int order = 1;
        for (int step = 0; step < EUCLID_STEPS && bottom != 0 && otherBottom != 0; step++) {
            long whole = top / bottom;
            long otherWhole = otherTop / otherBottom;
            if (whole != otherWhole) {
                return whole > otherWhole ? order : -order;
            }
            long rest = top % bottom;
            long otherRest = otherTop % otherBottom;
            if (rest == 0 || otherRest == 0) {
                return order * Long.compare(rest, otherRest);
            }
            // of two rests below 1 the greater one has the smaller inverse
            top = bottom;
            bottom = rest;
            otherTop = otherBottom;
            otherBottom = otherRest;
            order = -order;
        }
        return 0;
    }

    /** Piles, columns and the wind: what an action changes and an image keeps. */
    private static final class Structure {
        private final int[] x = new int[PILES];
        private final int[] y = new int[PILES];
        private final int[] stiff = new int[PILES];
        private final int[] can = new int[PILES];
        private int piles;
        private int intact;
        private final int[] columnX = new int[COLUMNS];
        private final int[] columnY = new int[COLUMNS];
        private final int[] load = new int[COLUMNS];
        private int columns;
        private int windX;
        private int windY;

        void empty() {
            piles = 0;
            intact = 0;
            columns = 0;
            windX = 0;
            windY = 0;
        }

        static void copy(Structure from, Structure to) {
            if (from == null || to == null) {
                return;
            }
            System.arraycopy(from.x, 0, to.x, 0, PILES);
            System.arraycopy(from.y, 0, to.y, 0, PILES);
            System.arraycopy(from.stiff, 0, to.stiff, 0, PILES);
            System.arraycopy(from.can, 0, to.can, 0, PILES);
            to.piles = from.piles;
            to.intact = from.intact;
            System.arraycopy(from.columnX, 0, to.columnX, 0, COLUMNS);
            System.arraycopy(from.columnY, 0, to.columnY, 0, COLUMNS);
            System.arraycopy(from.load, 0, to.load, 0, COLUMNS);
            to.columns = from.columns;
            to.windX = from.windX;
            to.windY = from.windY;
        }

        boolean hasPileAt(int placeX, int placeY) {
            for (int p = 0; p < piles; p++) {
                if (x[p] == placeX && y[p] == placeY) {
                    return true;
                }
            }
            return false;
        }

        boolean isIntact(int p) {
            return (intact >> p & 1) == 1;
        }

        void addPile(int placeX, int placeY, int stiffness, int capacity) {
            if (piles < 0 || piles >= PILES) {
                return;
            }
            x[piles] = placeX;
            y[piles] = placeY;
            stiff[piles] = stiffness;
            can[piles] = capacity;
            intact |= 1 << piles;
            piles++;
        }

        void addColumn(int placeX, int placeY, int weight) {
            if (columns < 0 || columns >= COLUMNS) {
                return;
            }
            columnX[columns] = placeX;
            columnY[columns] = placeY;
            load[columns] = weight;
            columns++;
        }

        int weight() {
            int sum = 0;
            for (int c = 0; c < columns; c++) {
                sum += load[c];
            }
            return sum;
        }

        int momentX() {
            int sum = windX;
            for (int c = 0; c < columns; c++) {
                sum += load[c] * columnX[c];
            }
            return sum;
        }

        int momentY() {
            int sum = windY;
            for (int c = 0; c < columns; c++) {
                sum += load[c] * columnY[c];
            }
            return sum;
        }
    }

    /** The text buffer, and the reading of it. */
    private static final class Script {
        private static final int BLANK = 32, GREATEST_NUMBER = 198, ERROR = -10, NO_NUMBER = -1;

        private final int[] letters = new int[LETTERS];
        private int length;
        /** While it is read: where the next token is looked for; where one cannot stand, its first character. */
        private int at;
        /** Where the number that was read last begins. */
        private int numberStart;
        private int placeX;
        private int placeY;
        private boolean windTold;

        boolean append(int letter) {
            if (length < 0 || length >= LETTERS) {
                return false;
            }
            letters[length] = letter;
            length++;
            return true;
        }

        /** Answers the number of items, or -10 minus the error position. */
        int readInto(Structure told) {
            told.empty();
            at = 0;
            windTold = false;
            for (int items = 0; items < LETTERS; items++) {
                skipBlanks();
                if (at >= length) {
                    return items;
                }
                if (!readItem(told)) {
                    break;
                }
            }
            return ERROR - at;
        }

        private boolean readItem(Structure told) {
            switch (letterHere()) {
                case 'p':
                    return told.piles < PILES && readPile(told);
                case 'c':
                    return told.columns < COLUMNS && readColumn(told);
                case 'w':
                    return !windTold && readWind(told);
                default:
                    return false;
            }
        }

        private boolean readPile(Structure told) {
            at++;
            if (!readPlace()) {
                return false;
            }
            if (told.hasPileAt(placeX, placeY)) {
                at = numberStart;
                return false;
            }
            int stiff = readNumber(1, MOST_STIFF);
            if (stiff == NO_NUMBER) {
                return false;
            }
            int can = readNumber(1, MOST_CAN);
            if (can == NO_NUMBER || !readSemicolon()) {
                return false;
            }
            told.addPile(placeX, placeY, stiff, can);
            return true;
        }

        private boolean readColumn(Structure told) {
            at++;
            if (!readPlace()) {
                return false;
            }
            int weight = readNumber(0, MOST_LOAD);
            if (weight == NO_NUMBER || !readSemicolon()) {
                return false;
            }
            told.addColumn(placeX, placeY, weight);
            return true;
        }

        private boolean readPlace() {
            int first = readNumber(0, SIDE - 1);
            if (first == NO_NUMBER) {
                return false;
            }
            int second = readNumber(0, SIDE - 1);
            if (second == NO_NUMBER) {
                return false;
            }
            placeX = first - EDGE;
            placeY = second - EDGE;
            return true;
        }

        private boolean readWind(Structure told) {
            at++;
            int a = readNumber(0, 2 * MOST_WIND);
            if (a == NO_NUMBER) {
                return false;
            }
            int b = readNumber(0, 2 * MOST_WIND);
            if (b == NO_NUMBER || !readSemicolon()) {
                return false;
            }
            told.windX = a - MOST_WIND;
            told.windY = b - MOST_WIND;
            windTold = true;
            return true;
        }

        /** Goes behind the next number, or stays before a token that is none or is out of the range. */
        private int readNumber(int least, int greatest) {
            skipBlanks();
            numberStart = at;
            int value = 0;
            int digits = 0;
            for (int i = at; i < length && isDigit(letters[i]); i++) {
                // a run of many digits must not come round to a small number
                value = Math.min(10 * value + letters[i] - '0', GREATEST_NUMBER + 1);
                digits++;
            }
            boolean leadingZero = digits > 1 && letterHere() == '0';
            if (digits == 0 || leadingZero || value < least || value > greatest) {
                return NO_NUMBER;
            }
            at += digits;
            return value;
        }

        private boolean readSemicolon() {
            skipBlanks();
            if (letterHere() != ';') {
                return false;
            }
            at++;
            return true;
        }

        private void skipBlanks() {
            for (int i = at; i < length && letters[i] == BLANK; i++) {
                at = i + 1;
            }
        }

        /** -1 stands for the end of the text. */
        private int letterHere() {
            return at >= 0 && at < length ? letters[at] : -1;
        }

        private static boolean isDigit(int letter) {
            return letter >= '0' && letter <= '9';
        }
    }

    /**
     * The plane that a set of piles gives the cap. The sums run over the piles of the set, with their stiffness as
     * weight; the pressure at a place is (a + b * x + c * y) / bottom. No product of these leaves the range of long.
     */
    private static final class Plane {
        private long k, kx, ky, kxx, kxy, kyy;
        private long inverse00, inverse01, inverse02, inverse11, inverse12, inverse22;
        private long bottom;
        private long a, b, c;

        void empty() {
            k = 0;
            kx = 0;
            ky = 0;
            kxx = 0;
            kxy = 0;
            kyy = 0;
        }

        void copySums(Plane other) {
            k = other.k;
            kx = other.kx;
            ky = other.ky;
            kxx = other.kxx;
            kxy = other.kxy;
            kyy = other.kyy;
        }

        /** A negative stiffness takes a pile away that was put before. */
        void put(int x, int y, int stiffness) {
            int weightedX = stiffness * x;
            int weightedY = stiffness * y;
            k += stiffness;
            kx += weightedX;
            ky += weightedY;
            kxx += weightedX * x;
            kxy += weightedX * y;
            kyy += weightedY * y;
        }

        /** Inverts the matrix of the sums, all but its division by the determinant; answers whether that is not 0. */
        boolean brace() {
            inverse00 = kxx * kyy - kxy * kxy;
            inverse01 = kxy * ky - kx * kyy;
            inverse02 = kx * kxy - kxx * ky;
            inverse11 = k * kyy - ky * ky;
            inverse12 = kx * ky - k * kxy;
            inverse22 = k * kxx - kx * kx;
            // a sum of squares with positive weights: it is never negative
            bottom = k * inverse00 + kx * inverse01 + ky * inverse02;
            return bottom > 0;
        }

        void tilt(long w, long u, long v) {
            a = inverse00 * w + inverse01 * u + inverse02 * v;
            b = inverse01 * w + inverse11 * u + inverse12 * v;
            c = inverse02 * w + inverse12 * u + inverse22 * v;
        }

        long topAt(int x, int y) {
            return a + b * x + c * y;
        }
    }

    /** The distribution of loads to a set of piles, in rounds. */
    private static final class Distribution {
        /** One more than a structure has, for the further pile. */
        private static final int SLOTS = PILES + 1;

        private final int[] x = new int[SLOTS];
        private final int[] y = new int[SLOTS];
        private final int[] stiff = new int[SLOTS];
        private final int[] can = new int[SLOTS];
        private int piles;
        private long w, u, v;
        private int set;
        private int active;
        private int rounds;
        private boolean settled;
        private int mostUsed;
        /** The plane of the whole set, from which each distribution starts. */
        private final Plane whole = new Plane();
        private final Plane plane = new Plane();

        void takePiles(Structure structure) {
            System.arraycopy(structure.x, 0, x, 0, PILES);
            System.arraycopy(structure.y, 0, y, 0, PILES);
            System.arraycopy(structure.stiff, 0, stiff, 0, PILES);
            System.arraycopy(structure.can, 0, can, 0, PILES);
            piles = structure.piles;
        }

        void bear(long weight, long momentX, long momentY) {
            w = weight;
            u = momentX;
            v = momentY;
        }

        void settleOn(int piled) {
            beginWith(piled);
            settle();
        }

        void beginWith(int piled) {
            set = piled;
            whole.empty();
            for (int p = 0; p < piles; p++) {
                if ((set >> p & 1) == 1) {
                    whole.put(x[p], y[p], stiff[p]);
                }
            }
        }

        void putFurther(int placeX, int placeY, int stiffness, int capacity) {
            if (piles < 0 || piles >= SLOTS) {
                return;
            }
            x[piles] = placeX;
            y[piles] = placeY;
            stiff[piles] = stiffness;
            can[piles] = capacity;
            whole.put(placeX, placeY, stiffness);
            set |= 1 << piles;
            piles++;
        }

        /** The settled distribution can still be asked for its greatest use. */
        void takeFurtherAway() {
            if (piles < 1 || piles > SLOTS) {
                return;
            }
            piles--;
            whole.put(x[piles], y[piles], -stiff[piles]);
            set &= ~(1 << piles);
        }

        void settle() {
            plane.copySums(whole);
            active = set;
            settled = false;
            rounds = 0;
            boolean goesOn = true;
            for (int round = 1; round <= ROUNDS && goesOn; round++) {
                rounds = round;
                goesOn = anotherRoundFollows();
            }
            if (settled) {
                findMostUsed();
            }
        }

        private boolean anotherRoundFollows() {
            if (!plane.brace()) {
                return false;
            }
            plane.tilt(w, u, v);
            int pulled = mostPulled();
            if (pulled >= 0) {
                active &= ~(1 << pulled);
                plane.put(x[pulled], y[pulled], -stiff[pulled]);
                return true;
            }
            int pressed = mostPressedOfReleased();
            if (pressed >= 0) {
                active |= 1 << pressed;
                plane.put(x[pressed], y[pressed], stiff[pressed]);
                return true;
            }
            settled = true;
            return false;
        }

        private int mostPulled() {
            int found = -1;
            long least = 0;
            for (int p = 0; p < piles; p++) {
                if ((active >> p & 1) == 1) {
                    long top = stiff[p] * plane.topAt(x[p], y[p]);
                    if (top < least) {
                        least = top;
                        found = p;
                    }
                }
            }
            return found;
        }

        private int mostPressedOfReleased() {
            int released = set & ~active;
            int found = -1;
            long greatest = 0;
            for (int p = 0; p < piles && released != 0; p++) {
                if ((released >> p & 1) == 1) {
                    long top = plane.topAt(x[p], y[p]);
                    if (top > greatest) {
                        greatest = top;
                        found = p;
                    }
                }
            }
            return found;
        }

        private void findMostUsed() {
            mostUsed = -1;
            long greatest = 0;
            for (int p = 0; p < piles; p++) {
                if ((set >> p & 1) == 1) {
                    long top = shareTop(p);
                    if (mostUsed < 0 || top * can[mostUsed] > greatest * can[p]) {
                        mostUsed = p;
                        greatest = top;
                    }
                }
            }
        }

        /** Whether a load at a place alone leaves no share negative, after braceAll(). */
        boolean pullsNoPile(int placeX, int placeY) {
            plane.tilt(1, placeX, placeY);
            return mostPulled() < 0;
        }

        /** Answers whether the set, with all of its piles active, is stable. */
        boolean braceAll(int piled) {
            beginWith(piled);
            plane.copySums(whole);
            active = set;
            return plane.brace();
        }

        boolean isActive(int p) {
            return (active >> p & 1) == 1;
        }

        private static boolean isSlot(int p) {
            return p >= 0 && p < SLOTS;
        }

        /** All shares and pressures have bottom() as their denominator. */
        long shareTop(int p) {
            return isSlot(p) && isActive(p) ? stiff[p] * plane.topAt(x[p], y[p]) : 0;
        }

        long bottom() {
            return plane.bottom;
        }

        long shareDown(int p) {
            return plane.bottom == 0 ? 0 : Math.floorDiv(shareTop(p), plane.bottom);
        }

        long useTop() {
            return shareTop(mostUsed);
        }

        long useBottom() {
            return isSlot(mostUsed) ? plane.bottom * can[mostUsed] : 1;
        }
    }
}
