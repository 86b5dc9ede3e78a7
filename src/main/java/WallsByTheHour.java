/** Walls by the hour: a poor street whose walls go where most is lacking. */
public final class WallsByTheHour {
    private static final int HOUSES = 8;
    private static final int PARTS = 6;
    private static final int KINDS = 6;
    private static final int MOST_WALLS = 7;
    private static final int MOST_FIGURE = 9;
    private static final int MOST_NEED = 9;
    private static final int LAST_HOUR = 999;
    private static final int MOST_AHEAD = 60;
    private static final int MOST_LETTERS = 96;
    private static final int MOST_IN_ROW = 16;

    private static final int NOBODY = -1;
    private static final int OTHER = -2;
    private static final int STATE = -3;
    private static final int BELOW = -4;
    private static final int ROOM = -6;
    private static final int NONE = -9;
    private static final long LONG_REFUSAL = 4000000000000000000L;

    private final Street now = new Street();
    private final Street keptStreet = new Street();
    private final History seen = new History();
    private boolean hasImage = false;
    private final Letters letters = new Letters();
    private final Row told = new Row();
    private final Choices choices = new Choices();
    private final Thought thought = new Thought();
    private final int[] refusals = new int[7];

    public WallsByTheHour() {
    }

    // ---- letters and statements

    public int letter(int c) {
        if (c < 0) {
            return refuse(BELOW);
        }
        if (c > 255 || letters.length >= MOST_LETTERS) {
            return refuse(ROOM);
        }
        return letters.add(c);
    }

    public int street() {
        int fault = letters.fault(now.walls, now.hour);
        int statements = 0;
        int start = 0;
        for (int i = 0; i < MOST_LETTERS && fault == 0 && start < letters.length; i++) {
            tell(start);
            statements++;
            start += Letters.sizeOf(letters.signAt(start));
        }
        letters.length = 0;
        return fault == 0 ? statements : fault;
    }

    private void tell(int start) {
        int first = letters.digitAt(start + 1);
        int second = letters.digitAt(start + 2);
        switch (letters.signAt(start)) {
            case 'w':
                now.addWall(letters.kindAt(start + 1), second, letters.digitAt(start + 3));
                break;
            case 'm':
                now.takeTo(first, second);
                break;
            case 's':
                now.sellTo(first, second);
                break;
            case 'n':
                for (int part = 0; part < PARTS; part++) {
                    now.setNeed(first, part, letters.digitAt(start + 2 + part));
                }
                break;
            case 'b':
                now.turnBar(first, second);
                break;
            default:
                pass(10 * first + second);
                break;
        }
    }

    private void pass(int n) {
        for (int i = 0; i < n; i++) {
            now.passHour();
            seen.write(now.hour, now.seenBits());
        }
    }

    // ---- walls and houses as they are, and by hand

    public int wall(int wall, int what) {
        if (!now.isWall(wall)) {
            return refuse(NOBODY);
        }
        switch (what) {
            case 0:
                return now.kind[wall];
            case 1:
                return now.figure[wall];
            case 2:
                return now.owner[wall];
            case 3:
                return now.at[wall];
            case 4:
                return now.holes[wall];
            case 5:
                return now.cover[wall];
            default:
                return refuse(OTHER);
        }
    }

    public int house(int house, int what) {
        if (!isHouse(house)) {
            return refuse(NOBODY);
        }
        switch (what) {
            case 0:
                return now.needOf(house);
            case 1:
                return now.has[house];
            case 2:
                return now.lackOf(house);
            case 3:
                return now.wallsAt(house);
            case 4:
                return now.wallsOwnedBy(house);
            case 5:
                return now.barred[house];
            default:
                return refuse(OTHER);
        }
    }

    public int takes(int wall, int house) {
        if (!now.isWall(wall) || !isHouse(house)) {
            return refuse(NOBODY);
        }
        int before = now.at[wall];
        now.takeTo(wall, house);
        return before;
    }

    public int sells(int wall, int house) {
        if (!now.isWall(wall) || !isHouse(house)) {
            return refuse(NOBODY);
        }
        int before = now.owner[wall];
        now.sellTo(wall, house);
        return before;
    }

    public int needs(int house, int part, int v) {
        if (!isHouse(house)) {
            return refuse(NOBODY);
        }
        if (part < 0 || part >= PARTS) {
            return refuse(OTHER);
        }
        int off = outside(v, 0, MOST_NEED);
        if (off != 0) {
            return refuse(off);
        }
        int before = now.needAt(house, part);
        now.setNeed(house, part, v);
        return before;
    }

    public int bars(int a, int b) {
        if (!areTwoHouses(a, b)) {
            return refuse(NOBODY);
        }
        return now.turnBar(a, b);
    }

    public int turn(int wall, int kind, int figure) {
        if (!now.isWall(wall)) {
            return refuse(NOBODY);
        }
        if (kind < 0 || kind >= KINDS) {
            return refuse(OTHER);
        }
        int off = outside(figure, 0, MOST_FIGURE);
        if (off != 0) {
            return refuse(off);
        }
        int before = 10 * now.kind[wall] + now.figure[wall];
        now.turnInto(wall, kind, figure);
        return before;
    }

    public int hours(int n) {
        int off = outside(n, 1, MOST_AHEAD);
        if (off != 0) {
            return refuse(off);
        }
        if (now.hour + n > LAST_HOUR) {
            return refuse(ROOM);
        }
        pass(n);
        return now.allLacking();
    }

    // ---- in mind, hours on

    public int atThen(int wall, int n) {
        if (!now.isWall(wall)) {
            return refuse(NOBODY);
        }
        int off = outside(n, 0, MOST_AHEAD);
        if (off != 0) {
            return refuse(off);
        }
        return thought.after(now, n).at[wall];
    }

    public int lacksThen(int house, int n) {
        if (!isHouse(house)) {
            return refuse(NOBODY);
        }
        int off = outside(n, 0, MOST_AHEAD);
        if (off != 0) {
            return refuse(off);
        }
        return thought.after(now, n).lackOf(house);
    }

    public int allLack(int n) {
        int off = outside(n, 0, MOST_AHEAD);
        if (off != 0) {
            return refuse(off);
        }
        return thought.after(now, n).allLacking();
    }

    public int goes(int wall, int what) {
        if (!now.isWall(wall)) {
            return refuse(NOBODY);
        }
        if (what < 0 || what > 1) {
            return refuse(OTHER);
        }
        return what == 0 ? thought.hoursToHome(now, wall) : thought.hoursToGone(now, wall);
    }

    public int shown(int house) {
        if (!isHouse(house)) {
            return refuse(NOBODY);
        }
        return thought.hoursToSeen(now, house);
    }

    public int asked() {
        return thought.hoursToAllLent(now);
    }

    public int coughs(int a, int b, int n) {
        if (!areTwoHouses(a, b)) {
            return refuse(NOBODY);
        }
        int off = outside(n, 0, MOST_AHEAD);
        if (off != 0) {
            return refuse(off);
        }
        return thought.goingsBetween(now, a, b, n);
    }

    public int lend(int n) {
        int off = outside(n, 0, 12);
        if (off != 0) {
            return refuse(off);
        }
        return thought.bestLoan(now, n);
    }

    // ---- choices now

    public int close(int house, int what) {
        if (!isHouse(house)) {
            return refuse(NOBODY);
        }
        if (what < 0 || what > 1) {
            return refuse(OTHER);
        }
        return choices.closeIn(now, house, what == 1);
    }

    public int split(int a, int b, int what) {
        if (!areTwoHouses(a, b)) {
            return refuse(NOBODY);
        }
        if (what < 0 || what > 2) {
            return refuse(OTHER);
        }
        return choices.closeBoth(now, a, b, what);
    }

    public int spare() {
        return choices.spareBits(now);
    }

    public int price(int wall, int what) {
        if (!now.isWall(wall)) {
            return refuse(NOBODY);
        }
        if (what < 0 || what > 1) {
            return refuse(OTHER);
        }
        int buyer = choices.mostGiving(now, wall, NONE);
        if (what == 0 || buyer == NONE) {
            return what == 0 ? buyer : 0;
        }
        int next = choices.mostGiving(now, wall, buyer);
        return next == NONE ? 0 : choices.gift(now, next, wall);
    }

    public int shares(int a, int b) {
        if (!areTwoHouses(a, b)) {
            return refuse(NOBODY);
        }
        return choices.fairShares(now, a, b);
    }

    public int coldest(int what) {
        if (what < 0 || what > 1) {
            return refuse(OTHER);
        }
        int part = now.coldestPart();
        return what == 0 ? part : now.needsAt(part);
    }

    public int best(int what) {
        int wall = now.bestWall();
        switch (what) {
            case 0:
                return wall;
            case 1:
                return now.isWall(wall) ? now.at[wall] : NONE;
            case 2:
                return now.lentBits();
            case 3:
                return now.seenBits();
            case 4:
                return now.warmerBits();
            default:
                return refuse(OTHER);
        }
    }

    public int each(int house) {
        if (!isHouse(house)) {
            return refuse(NOBODY);
        }
        int walls = bitsIn(now.wallsAt(house));
        return walls == 0 ? refuse(STATE) : now.has[house] / walls;
    }

    public int panes(int wall) {
        if (!now.isWall(wall)) {
            return refuse(NOBODY);
        }
        int panes = Kinds.panesOf(now.kind[wall], now.figure[wall]);
        return panes == 0 ? refuse(STATE) : panes;
    }

    public int sees(int house) {
        if (!isHouse(house)) {
            return refuse(NOBODY);
        }
        int bits = 0;
        for (int other = 0; other < HOUSES; other++) {
            if (now.looksAt(other, house)) {
                bits |= 1 << other;
            }
        }
        return bits;
    }

    public int hide(int a, int b) {
        if (!areTwoHouses(a, b)) {
            return refuse(NOBODY);
        }
        if (!now.looksAt(a, b)) {
            return refuse(STATE);
        }
        return choices.screen(now, a, b);
    }

    // ---- two who take theirs back, ways, odds

    public int two(int a, int b, int n) {
        if (!now.isWall(a) || !now.isWall(b) || a == b) {
            return refuse(NOBODY);
        }
        int off = outside(n, 0, 30);
        if (off != 0) {
            return refuse(off);
        }
        return thought.settledPair(now, a, b, n);
    }

    public long ways(int wall, int house, int n) {
        if (!now.isWall(wall) || !isHouse(house)) {
            return refuseLong(NOBODY);
        }
        int off = outside(n, 0, 20);
        if (off != 0) {
            return refuseLong(off);
        }
        return choices.waysTo(now, wall, house, n);
    }

    public long rain(int house, int n, int t, int part) {
        if (!isHouse(house)) {
            return refuseLong(NOBODY);
        }
        if (n < 0 || t < 2) {
            return refuseLong(BELOW);
        }
        if (n > 6 || t > 20) {
            return refuseLong(ROOM);
        }
        if (part < 0 || part > 1) {
            return refuseLong(OTHER);
        }
        return inLeastTerms(thought.seenWeight(now, house, n, t), power(t, n), part);
    }

    public long mean(int part) {
        if (part < 0 || part > 1) {
            return refuseLong(OTHER);
        }
        return inLeastTerms(now.allLacking(), bitsIn(now.seenBits()), part);
    }

    // ---- hours gone by

    public int wasSeen(int house, int from, int to) {
        if (!isHouse(house)) {
            return refuse(NOBODY);
        }
        if (from < 0 || to < 0) {
            return refuse(BELOW);
        }
        if (from > LAST_HOUR || to > LAST_HOUR) {
            return refuse(ROOM);
        }
        if (from > to) {
            return refuse(STATE);
        }
        return seen.hoursOf(house, from, Math.min(to, now.hour));
    }

    public int longest(int house) {
        if (!isHouse(house)) {
            return refuse(NOBODY);
        }
        return seen.longestOf(house, now.hour);
    }

    public int together(int a, int b, int what) {
        if (!areTwoHouses(a, b)) {
            return refuse(NOBODY);
        }
        if (what < 0 || what > 2) {
            return refuse(OTHER);
        }
        int first = seen.hoursOf(a, 0, now.hour);
        int second = seen.hoursOf(b, 0, now.hour);
        int both = seen.hoursOfBoth(a, b, now.hour);
        if (what == 0) {
            return both;
        }
        return what == 1 ? first + second - both : first + second - 2 * both;
    }

    // ---- the row

    public int whatIs(int wall, int what) {
        if (!now.isWall(wall)) {
            return refuse(NOBODY);
        }
        if (what < 0 || what > 1) {
            return refuse(OTHER);
        }
        return what == 0 ? thought.fittingKinds(now, wall, told) : thought.fittingFigures(now, wall, told);
    }

    public int row(int v) {
        if (v < 0) {
            return refuse(BELOW);
        }
        if (v > 99 || told.length >= MOST_IN_ROW) {
            return refuse(ROOM);
        }
        return told.add(v);
    }

    public int judge() {
        int place = thought.firstNotSo(now, told);
        told.length = 0;
        return place;
    }

    public int clear() {
        int had = told.length;
        told.length = 0;
        return had;
    }

    // ---- streets by lot, the image, counts

    public int lots(int n, int z, int what) {
        int off = outside(n, 1, 20);
        if (off != 0) {
            return refuse(off);
        }
        if (what < 0 || what > 1) {
            return refuse(OTHER);
        }
        return thought.overLots(now, n, z, what == 1);
    }

    public int image() {
        keptStreet.copyFrom(now);
        hasImage = true;
        return now.hour;
    }

    public int on() {
        if (!hasImage) {
            return refuse(STATE);
        }
        now.copyFrom(keptStreet);
        return now.hour;
    }

    public int count(int what) {
        switch (what) {
            case 0:
                return now.walls;
            case 1:
                return now.hour;
            case 2:
                return now.allLacking();
            case 3:
                return now.seenBits();
            case 4:
                return now.lentBits();
            case 5:
                return now.allHoles();
            case 6:
                return told.length;
            case 7:
                return letters.length;
            default:
                return what >= 11 && what <= 16 ? refusals[what - 10] : NONE;
        }
    }

    // ---- refusals and small sums

    private int refuse(int number) {
        int place = -number;
        if (place >= 0 && place < refusals.length) {
            refusals[place]++;
        }
        return number;
    }

    private long refuseLong(int number) {
        return LONG_REFUSAL - refuse(number);
    }

    private static boolean isHouse(int house) {
        return house >= 0 && house < HOUSES;
    }

    private static boolean areTwoHouses(int a, int b) {
        return isHouse(a) && isHouse(b) && a != b;
    }

    private static int outside(int v, int least, int most) {
        if (v < least) {
            return BELOW;
        }
        return v > most ? ROOM : 0;
    }

    private static int stepsBetween(int a, int b) {
        return Math.abs(a - b);
    }

    private static boolean hasBit(int bits, int place) {
        return ((bits >> place) & 1) == 1;
    }

    private static int bitsIn(int bits) {
        return Integer.bitCount(bits);
    }

    private static long power(int base, int exponent) {
        long product = 1;
        for (int i = 0; i < exponent; i++) {
            product *= base;
        }
        return product;
    }

    /** Above (part 0) or below (part 1) the line; nothing is told as 0 by 1. */
    private static long inLeastTerms(long above, long below, int part) {
        if (above == 0 || below == 0) {
            return part;
        }
        long common = commonDivisor(above, below);
        if (common == 0) {
            return part;
        }
        return (part == 0 ? above : below) / common;
    }

    private static long commonDivisor(long a, long b) {
        long greater = a;
        long lesser = b;
        for (int i = 0; i < 100 && lesser != 0; i++) {
            long rest = greater % lesser;
            greater = lesser;
            lesser = rest;
        }
        return greater;
    }

    /** All in which the kinds of WALLS differ. */
    private static final class Kinds {
        private static final int OVEN = 1;
        private static final int BACK = 2;
        private static final int PANE = 3;
        private static final int LANE = 4;
        private static final int FINE = 5;

        static int coverOf(int kind, int figure, int part) {
            int plain = figure + 1;
            switch (kind) {
                case OVEN:
                    return part <= 2 ? plain + 3 : plain;
                case BACK:
                    return plain / 2;
                case LANE:
                    return plain / 2 + 1;
                case FINE:
                    return 2 * plain;
                default:
                    return plain;
            }
        }

        static boolean strides(int kind, int steps) {
            boolean even = steps % 2 == 0;
            switch (kind) {
                case BACK:
                    return true;
                case PANE:
                    return even;
                case LANE:
                    return steps == 1;
                case FINE:
                    return even || steps == 1;
                default:
                    return steps <= 3;
            }
        }

        static int panesOf(int kind, int figure) {
            int ofPane = 1 + figure / 2;
            if (kind == PANE) {
                return ofPane;
            }
            return kind == FINE ? ofPane + 3 : 0;
        }
    }

    /** Walls, needs, bars and the HOUR: all that decides what comes next. */
    private static final class Street {
        int walls = 0;
        int hour = 0;
        /** How much more each house needs in this HOUR, as it rains (in mind alone). */
        int wet = 0;
        final int[] kind = new int[MOST_WALLS];
        final int[] figure = new int[MOST_WALLS];
        final int[] owner = new int[MOST_WALLS];
        final int[] at = new int[MOST_WALLS];
        final int[] holes = new int[MOST_WALLS];
        /** Where each WALL was ahead of the last HOUR. */
        final int[] cameFrom = new int[MOST_WALLS];
        final int[] need = new int[HOUSES * PARTS];
        final int[] barred = new int[HOUSES];
        /**
         * What each WALL covers and what each house has by them: weighed anew with each change of a
         * WALL or of the HOUR, so that the many looks of an HOUR needn't add it up.
         */
        final int[] cover = new int[MOST_WALLS];
        final int[] has = new int[HOUSES];

        void copyFrom(Street other) {
            walls = other.walls;
            hour = other.hour;
            wet = other.wet;
            System.arraycopy(other.kind, 0, kind, 0, MOST_WALLS);
            System.arraycopy(other.figure, 0, figure, 0, MOST_WALLS);
            System.arraycopy(other.owner, 0, owner, 0, MOST_WALLS);
            System.arraycopy(other.at, 0, at, 0, MOST_WALLS);
            System.arraycopy(other.holes, 0, holes, 0, MOST_WALLS);
            System.arraycopy(other.cameFrom, 0, cameFrom, 0, MOST_WALLS);
            System.arraycopy(other.need, 0, need, 0, HOUSES * PARTS);
            System.arraycopy(other.barred, 0, barred, 0, HOUSES);
            System.arraycopy(other.cover, 0, cover, 0, MOST_WALLS);
            System.arraycopy(other.has, 0, has, 0, HOUSES);
        }

        // -- changes by hand

        void addWall(int ofKind, int withFigure, int forHouse) {
            if (walls >= MOST_WALLS || !isHouse(forHouse)) {
                return;
            }
            int wall = walls;
            walls++;
            kind[wall] = ofKind;
            figure[wall] = withFigure;
            owner[wall] = forHouse;
            at[wall] = forHouse;
            holes[wall] = 0;
            weigh();
        }

        void takeTo(int wall, int house) {
            if (isWall(wall) && isHouse(house)) {
                at[wall] = house;
                weigh();
            }
        }

        void sellTo(int wall, int house) {
            if (isWall(wall) && isHouse(house)) {
                owner[wall] = house;
            }
        }

        void turnInto(int wall, int newKind, int newFigure) {
            if (isWall(wall)) {
                kind[wall] = newKind;
                figure[wall] = newFigure;
                weigh();
            }
        }

        void setNeed(int house, int part, int v) {
            if (isHouse(house) && part >= 0 && part < PARTS) {
                need[house * PARTS + part] = v;
            }
        }

        int turnBar(int a, int b) {
            if (!areTwoHouses(a, b)) {
                return 0;
            }
            barred[a] ^= 1 << b;
            return hasBit(barred[a], b) ? 1 : 0;
        }

        // -- an HOUR

        void passHour() {
            hour++;
            weigh();
            for (int wall = 0; wall < walls; wall++) {
                int from = at[wall];
                int to = nextHouse(wall);
                cameFrom[wall] = from;
                if (to != from) {
                    has[from] -= cover[wall];
                    has[to] += cover[wall];
                    at[wall] = to;
                    holes[wall]++;
                }
            }
        }

        /** Where a WALL is as this HOUR ends: where it is AT, if it stays. */
        private int nextHouse(int wall) {
            int from = at[wall];
            int home = owner[wall];
            if (home != from && lackOf(home) > 0 && canGo(wall, from, home)) {
                return home;
            }
            int to = from;
            int most = lackWithout(wall);
            for (int house = 0; house < HOUSES; house++) {
                if (lackOf(house) > most && canGo(wall, from, house)) {
                    to = house;
                    most = lackOf(house);
                }
            }
            return to;
        }

        boolean canGo(int wall, int from, int to) {
            return from != to && !hasBit(barred[from], to)
                && Kinds.strides(kind[wall], stepsBetween(from, to));
        }

        private void weigh() {
            for (int house = 0; house < HOUSES; house++) {
                has[house] = 0;
            }
            for (int wall = 0; wall < walls; wall++) {
                cover[wall] = Kinds.coverOf(kind[wall], figure[wall], hour % PARTS);
                has[at[wall]] += cover[wall];
            }
        }

        // -- what is so

        boolean isWall(int wall) {
            return wall >= 0 && wall < walls;
        }

        boolean isLent(int wall) {
            return at[wall] != owner[wall];
        }

        int needAt(int house, int part) {
            return need[house * PARTS + part];
        }

        int needOf(int house) {
            return need[house * PARTS + hour % PARTS] + wet;
        }

        int lackOf(int house) {
            return Math.max(0, needOf(house) - has[house]);
        }

        /** What the house where a WALL is AT would lack if the WALL were gone. */
        int lackWithout(int wall) {
            int house = at[wall];
            return Math.max(0, needOf(house) - has[house] + cover[wall]);
        }

        int allLacking() {
            int sum = 0;
            for (int house = 0; house < HOUSES; house++) {
                sum += lackOf(house);
            }
            return sum;
        }

        int seenBits() {
            int bits = 0;
            for (int house = 0; house < HOUSES; house++) {
                if (lackOf(house) > 0) {
                    bits |= 1 << house;
                }
            }
            return bits;
        }

        int lentBits() {
            int bits = 0;
            for (int wall = 0; wall < walls; wall++) {
                if (isLent(wall)) {
                    bits |= 1 << wall;
                }
            }
            return bits;
        }

        int wallsAt(int house) {
            int bits = 0;
            for (int wall = 0; wall < walls; wall++) {
                if (at[wall] == house) {
                    bits |= 1 << wall;
                }
            }
            return bits;
        }

        int wallsOwnedBy(int house) {
            int bits = 0;
            for (int wall = 0; wall < walls; wall++) {
                if (owner[wall] == house) {
                    bits |= 1 << wall;
                }
            }
            return bits;
        }

        int allHoles() {
            int sum = 0;
            for (int wall = 0; wall < walls; wall++) {
                sum += holes[wall];
            }
            return sum;
        }

        int needsAt(int part) {
            int sum = 0;
            for (int house = 0; house < HOUSES; house++) {
                sum += needAt(house, part);
            }
            return sum;
        }

        int coldestPart() {
            int coldest = 0;
            for (int part = 1; part < PARTS; part++) {
                if (needsAt(part) > needsAt(coldest)) {
                    coldest = part;
                }
            }
            return coldest;
        }

        int bestWall() {
            int found = NONE;
            int most = -1;
            for (int wall = 0; wall < walls; wall++) {
                if (cover[wall] > most) {
                    found = wall;
                    most = cover[wall];
                }
            }
            return found;
        }

        int warmerBits() {
            int bits = 0;
            for (int wall = 0; wall < walls; wall++) {
                if (Kinds.coverOf(kind[wall], figure[wall], (hour + 1) % PARTS) > cover[wall]) {
                    bits |= 1 << wall;
                }
            }
            return bits;
        }

        /** Whether one house SEES the other one. */
        boolean looksAt(int one, int other) {
            if (one == other || lackOf(other) == 0) {
                return false;
            }
            for (int house = Math.min(one, other) + 1; house < Math.max(one, other); house++) {
                if (wallsAt(house) != 0) {
                    return false;
                }
            }
            return true;
        }
    }

    /**
     * Which houses were seen at each HOUR. Going ON from THE IMAGE needs no second one: up to its HOUR
     * nothing is written again, and what stands behind the HOUR is never asked for.
     */
    private static final class History {
        private final int[] seenAt = new int[LAST_HOUR + 1];

        void write(int hour, int houses) {
            if (hour >= 0 && hour <= LAST_HOUR) {
                seenAt[hour] = houses;
            }
        }

        private boolean had(int hour, int house) {
            return hour > 0 && hour <= LAST_HOUR && hasBit(seenAt[hour], house);
        }

        int hoursOf(int house, int from, int to) {
            int hours = 0;
            for (int hour = from; hour <= to; hour++) {
                if (had(hour, house)) {
                    hours++;
                }
            }
            return hours;
        }

        int hoursOfBoth(int a, int b, int to) {
            int hours = 0;
            for (int hour = 0; hour <= to; hour++) {
                if (had(hour, a) && had(hour, b)) {
                    hours++;
                }
            }
            return hours;
        }

        int longestOf(int house, int to) {
            int most = 0;
            int onEnd = 0;
            for (int hour = 0; hour <= to; hour++) {
                onEnd = had(hour, house) ? onEnd + 1 : 0;
                most = Math.max(most, onEnd);
            }
            return most;
        }
    }

    /** A street told in letters, and what is wrong with it. */
    private static final class Letters {
        private static final String KIND_LETTERS = "wobplf";
        private static final int FORM_FAULT = -1000;
        private static final int SENSE_FAULT = -2000;
        private final int[] text = new int[MOST_LETTERS];
        int length = 0;

        int add(int sign) {
            if (length < MOST_LETTERS) {
                text[length] = sign;
                length++;
            }
            return length;
        }

        int signAt(int place) {
            return place >= 0 && place < length ? text[place] : -1;
        }

        int digitAt(int place) {
            return signAt(place) - '0';
        }

        int kindAt(int place) {
            return KIND_LETTERS.indexOf((char) signAt(place));
        }

        /** How many letters a statement has, its ";" too; 0 if none begins so. */
        static int sizeOf(int head) {
            switch (head) {
                case 'w':
                    return 5;
                case 'n':
                    return 9;
                case 'm':
                case 's':
                case 'b':
                case 'h':
                    return 4;
                default:
                    return 0;
            }
        }

        /** The FAULT, 0 if there is none, of a street told to one with so many walls at such an HOUR. */
        int fault(int walls, int hour) {
            int place = misformedAt();
            if (place >= 0) {
                return FORM_FAULT - place;
            }
            place = senselessAt(walls, hour);
            return place >= 0 ? SENSE_FAULT - place : 0;
        }

        private int misformedAt() {
            if (length == 0) {
                return 0;
            }
            int start = 0;
            for (int i = 0; i < MOST_LETTERS && start < length; i++) {
                int size = sizeOf(signAt(start));
                if (size == 0) {
                    return start;
                }
                for (int place = start + 1; place < start + size; place++) {
                    if (!fits(start, place, size)) {
                        return place;
                    }
                }
                start += size;
            }
            return NONE;
        }

        private boolean fits(int start, int place, int size) {
            if (place >= length) {
                return false;
            }
            if (place == start + size - 1) {
                return signAt(place) == ';';
            }
            if (place == start + 1 && signAt(start) == 'w') {
                return kindAt(place) >= 0;
            }
            return digitAt(place) >= 0 && digitAt(place) <= 9;
        }

        private int senselessAt(int walls, int hour) {
            int wallsThen = walls;
            int hourThen = hour;
            int start = 0;
            for (int i = 0; i < MOST_LETTERS && start < length; i++) {
                if (!hasSense(start, wallsThen, hourThen)) {
                    return start;
                }
                if (signAt(start) == 'w') {
                    wallsThen++;
                }
                if (signAt(start) == 'h') {
                    hourThen += hoursAt(start);
                }
                start += sizeOf(signAt(start));
            }
            return NONE;
        }

        private boolean hasSense(int start, int walls, int hour) {
            int first = digitAt(start + 1);
            int second = digitAt(start + 2);
            switch (signAt(start)) {
                case 'w':
                    return walls < MOST_WALLS && isHouse(digitAt(start + 3));
                case 'm':
                case 's':
                    return first < walls && isHouse(second);
                case 'n':
                    return isHouse(first);
                case 'b':
                    return areTwoHouses(first, second);
                default:
                    return outside(hoursAt(start), 1, MOST_AHEAD) == 0 && hour + hoursAt(start) <= LAST_HOUR;
            }
        }

        private int hoursAt(int start) {
            return 10 * digitAt(start + 1) + digitAt(start + 2);
        }
    }

    /** The ROW of numbers. */
    private static final class Row {
        private final int[] numbers = new int[MOST_IN_ROW];
        int length = 0;

        int add(int v) {
            if (length < MOST_IN_ROW) {
                numbers[length] = v;
                length++;
            }
            return length;
        }

        int numberAt(int place) {
            return place >= 0 && place < length ? numbers[place] : NONE;
        }
    }

    /** What is best done with the walls as they are now. */
    private static final class Choices {
        private final long[] waysHere = new long[HOUSES];
        private final long[] waysNext = new long[HOUSES];

        /** The WALLS with which a house is closed in, or their STEPS. */
        int closeIn(Street now, int house, boolean askSteps) {
            int near = now.wallsAt(house);
            int found = NONE;
            int fewest = NONE;
            for (int bits = 0; bits < 1 << now.walls; bits++) {
                int steps = stepsTo(now, house, bits);
                boolean fewer = found == NONE || steps < fewest;
                if ((bits & near) == 0 && fewer && coverOfAll(now, bits) >= now.lackOf(house)) {
                    found = bits;
                    fewest = steps;
                }
            }
            return askSteps ? fewest : found;
        }

        private int stepsTo(Street now, int house, int bits) {
            int steps = 0;
            for (int wall = 0; wall < now.walls; wall++) {
                if (hasBit(bits, wall)) {
                    steps += stepsBetween(now.at[wall], house);
                }
            }
            return steps;
        }

        private int coverOfAll(Street now, int bits) {
            int cover = 0;
            for (int wall = 0; wall < now.walls; wall++) {
                if (hasBit(bits, wall)) {
                    cover += now.cover[wall];
                }
            }
            return cover;
        }

        /** With what 0 the STEPS, else the WALLS whose choice it is. */
        int closeBoth(Street now, int a, int b, int what) {
            int found = NONE;
            int fewest = NONE;
            int ends = (int) power(3, now.walls);
            for (int code = 0; code < ends; code++) {
                int toFirst = chosen(now, code, 1);
                int toSecond = chosen(now, code, 2);
                int steps = stepsTo(now, a, toFirst) + stepsTo(now, b, toSecond);
                if ((found == NONE || steps < fewest)
                    && isClosed(now, a, toFirst, toSecond) && isClosed(now, b, toSecond, toFirst)) {
                    found = code;
                    fewest = steps;
                }
            }
            if (what == 0 || found == NONE) {
                return fewest;
            }
            return chosen(now, found, what);
        }

        /** The WALLS for which a code of digits 0, 1, 2, WALL 0 lowest, says such a digit. */
        private int chosen(Street now, int code, int digit) {
            int bits = 0;
            int rest = code;
            for (int wall = 0; wall < now.walls; wall++) {
                if (rest % 3 == digit) {
                    bits |= 1 << wall;
                }
                rest /= 3;
            }
            return bits;
        }

        private boolean isClosed(Street now, int house, int coming, int leaving) {
            int there = (now.wallsAt(house) & ~leaving) | coming;
            return coverOfAll(now, there) >= now.needOf(house);
        }

        int spareBits(Street now) {
            int bits = 0;
            for (int wall = 0; wall < now.walls; wall++) {
                if (now.lackWithout(wall) <= now.lackOf(now.at[wall])) {
                    bits |= 1 << wall;
                }
            }
            return bits;
        }

        int gift(Street now, int house, int wall) {
            int worth = Math.min(now.lackOf(house), now.cover[wall]);
            return Math.max(0, worth - stepsBetween(house, now.at[wall]));
        }

        /** The house that GIVES most for a WALL, but for one of them. */
        int mostGiving(Street now, int wall, int but) {
            int found = NONE;
            int most = 0;
            for (int house = 0; house < HOUSES; house++) {
                if (house != but && gift(now, house, wall) > most) {
                    found = house;
                    most = gift(now, house, wall);
                }
            }
            return found;
        }

        int fairShares(Street now, int a, int b) {
            int found = NONE;
            int most = NONE;
            int all = (1 << now.walls) - 1;
            for (int bits = 0; bits <= all; bits++) {
                int own = worthOf(now, bits, a);
                int others = worthOf(now, all & ~bits, b);
                boolean fair = own >= worthOf(now, all & ~bits, a) && others >= worthOf(now, bits, b);
                if (fair && (found == NONE || own + others > most)) {
                    found = bits;
                    most = own + others;
                }
            }
            return found;
        }

        private int worthOf(Street now, int bits, int house) {
            int worth = 0;
            for (int wall = 0; wall < now.walls; wall++) {
                if (hasBit(bits, wall)) {
                    worth += now.cover[wall] + 8 - stepsBetween(now.owner[wall], house);
                }
            }
            return worth;
        }

        /** The WALL and the house between two where it is put with fewest STEPS. */
        int screen(Street now, int a, int b) {
            int found = NONE;
            int fewest = HOUSES;
            for (int wall = 0; wall < now.walls; wall++) {
                for (int house = Math.min(a, b) + 1; house < Math.max(a, b); house++) {
                    int steps = stepsBetween(now.at[wall], house);
                    if (steps < fewest) {
                        found = 10 * wall + house;
                        fewest = steps;
                    }
                }
            }
            return found;
        }

        long waysTo(Street now, int wall, int house, int n) {
            for (int i = 0; i < HOUSES; i++) {
                waysHere[i] = i == now.at[wall] ? 1 : 0;
            }
            for (int i = 0; i < n; i++) {
                goOn(now, wall);
            }
            return waysHere[house];
        }

        private void goOn(Street now, int wall) {
            for (int to = 0; to < HOUSES; to++) {
                waysNext[to] = 0;
                for (int from = 0; from < HOUSES; from++) {
                    if (now.canGo(wall, from, to)) {
                        waysNext[to] += waysHere[from];
                    }
                }
            }
            System.arraycopy(waysNext, 0, waysHere, 0, HOUSES);
        }
    }

    /** Goes through HOURS on a street in mind, so that the street itself stays as it is. */
    private static final class Thought {
        private static final int WET = 2;
        private final Street mind = new Street();
        private final int[] lackOfFirst = new int[4];
        private final int[] lackOfSecond = new int[4];

        private void begin(Street now) {
            mind.copyFrom(now);
        }

        private void goOn(int n) {
            for (int i = 0; i < n; i++) {
                mind.passHour();
            }
        }

        Street after(Street now, int n) {
            begin(now);
            goOn(n);
            return mind;
        }

        int hoursToHome(Street now, int wall) {
            begin(now);
            for (int n = 0; n <= MOST_AHEAD; n++) {
                if (!mind.isLent(wall)) {
                    return n;
                }
                mind.passHour();
            }
            return NONE;
        }

        int hoursToGone(Street now, int wall) {
            begin(now);
            for (int n = 1; n <= MOST_AHEAD; n++) {
                mind.passHour();
                if (mind.at[wall] != now.at[wall]) {
                    return n;
                }
            }
            return NONE;
        }

        int hoursToSeen(Street now, int house) {
            begin(now);
            for (int n = 0; n <= MOST_AHEAD; n++) {
                if (mind.lackOf(house) > 0) {
                    return n;
                }
                mind.passHour();
            }
            return NONE;
        }

        int hoursToAllLent(Street now) {
            if (now.walls == 0) {
                return NONE;
            }
            begin(now);
            for (int n = 0; n <= MOST_AHEAD; n++) {
                if (bitsIn(mind.lentBits()) == mind.walls) {
                    return n;
                }
                mind.passHour();
            }
            return NONE;
        }

        int goingsBetween(Street now, int a, int b, int n) {
            int goings = 0;
            begin(now);
            for (int i = 0; i < n; i++) {
                mind.passHour();
                for (int wall = 0; wall < mind.walls; wall++) {
                    int from = mind.cameFrom[wall];
                    int to = mind.at[wall];
                    if ((from == a && to == b) || (from == b && to == a)) {
                        goings++;
                    }
                }
            }
            return goings;
        }

        int bestLoan(Street now, int n) {
            int found = NONE;
            begin(now);
            goOn(n);
            int least = mind.allLacking();
            for (int wall = 0; wall < now.walls; wall++) {
                for (int house = 0; house < HOUSES; house++) {
                    begin(now);
                    mind.takeTo(wall, house);
                    goOn(n);
                    if (mind.allLacking() < least) {
                        found = 10 * wall + house;
                        least = mind.allLacking();
                    }
                }
            }
            return found;
        }

        int settledPair(Street now, int a, int b, int n) {
            for (int pair = 0; pair < 4; pair++) {
                begin(now);
                if (hasBit(pair, 1)) {
                    mind.takeTo(a, now.owner[a]);
                }
                if (hasBit(pair, 0)) {
                    mind.takeTo(b, now.owner[b]);
                }
                goOn(n);
                lackOfFirst[pair] = mind.lackOf(now.owner[a]);
                lackOfSecond[pair] = mind.lackOf(now.owner[b]);
            }
            for (int pair = 0; pair < 4; pair++) {
                if (lackOfFirst[pair] <= lackOfFirst[pair ^ 2] && lackOfSecond[pair] <= lackOfSecond[pair ^ 1]) {
                    return 10 * (pair / 2) + pair % 2;
                }
            }
            return NONE;
        }

        /** In how many of power(t, n) equal cases a house is SEEN at last. */
        long seenWeight(Street now, int house, int n, int t) {
            long sum = 0;
            for (int rainy = 0; rainy < 1 << n; rainy++) {
                begin(now);
                for (int i = 0; i < n; i++) {
                    mind.wet = hasBit(rainy, i) ? WET : 0;
                    mind.passHour();
                }
                if (mind.lackOf(house) > 0) {
                    sum += power(t - 1, n - bitsIn(rainy));
                }
            }
            return sum;
        }

        int fittingKinds(Street now, int wall, Row row) {
            int bits = 0;
            for (int kind = 0; kind < KINDS; kind++) {
                begin(now);
                mind.turnInto(wall, kind, now.figure[wall]);
                if (isWhereTold(wall, row)) {
                    bits |= 1 << kind;
                }
            }
            return bits;
        }

        int fittingFigures(Street now, int wall, Row row) {
            int bits = 0;
            for (int figure = 0; figure <= MOST_FIGURE; figure++) {
                begin(now);
                mind.turnInto(wall, now.kind[wall], figure);
                if (isWhereTold(wall, row)) {
                    bits |= 1 << figure;
                }
            }
            return bits;
        }

        private boolean isWhereTold(int wall, Row row) {
            for (int place = 0; place < row.length; place++) {
                if (mind.at[wall] != row.numberAt(place)) {
                    return false;
                }
                mind.passHour();
            }
            return true;
        }

        int firstNotSo(Street now, Row row) {
            begin(now);
            for (int place = 0; place < row.length; place++) {
                if (mind.allLacking() != row.numberAt(place)) {
                    return place;
                }
                mind.passHour();
            }
            return NONE;
        }

        int overLots(Street now, int n, int seed, boolean askSeen) {
            int z = seed;
            int sum = 0;
            for (int i = 0; i < n; i++) {
                begin(now);
                for (int wall = 0; wall < mind.walls; wall++) {
                    z = z * 1664525 + 1013904223;
                    mind.takeTo(wall, ((z & 0x7fffffff) / 256) % HOUSES);
                }
                goOn(PARTS);
                sum += askSeen ? bitsIn(mind.seenBits()) : mind.allLacking();
            }
            return sum;
        }
    }
}
