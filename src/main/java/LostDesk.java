import java.util.Arrays;

/**
 * A desk of lost things. The words in capitals are those of the document.
 * All arrays are made with the object, so that no call takes more room.
 */
public final class LostDesk {
    public static final int NONE = -1;

    private static final int OK = 0;
    private static final int NO_SUCH = 1;
    private static final int BAD_NUMBER = 2;
    private static final int TOO_MANY = 3;
    private static final int ALREADY = 4;
    private static final int CLOSED = 5;
    private static final int CANNOT_BE_ONE = 6;
    private static final int NOT_THERE = 7;
    private static final int AS_GOOD_A_CLAIM = 8;

    private static final int MOST_KINDS = 40;
    private static final int COLOURS = 12;
    private static final int MOST_PLACES = 20;
    private static final int MOST_FINDS = 24;
    private static final int MOST_LOSSES = 24;
    private static final int MARKS = 16;
    private static final int ALL_MARKS = 65535;
    private static final int LONGEST_WAY = 1000;
    private static final int LAST_TOLD_TICK = 100000;
    private static final int LAST_TICK = 200000;
    private static final int GREATEST_GAP = 100;
    private static final int FIRST_GAP = 20;
    private static final int GREATEST_S = 1000;
    private static final int LONGEST_KEEPING = 1000;
    private static final int USUAL_KEEPING = 30;
    private static final int TICKS_A_DAY = 24;
    private static final int MOST_PENNIES = 1000000;
    private static final int GREATEST_SHARE = 100;
    private static final int MOST_FINDERS = 8;

    private static final int KEPT = 0;
    private static final int HANDED = 1;
    private static final int GONE = 2;

    private static final int STEP_COST = 2;
    private static final int NEAR_COST = 1;
    private static final int ONE_COLOUR_COST = 2;
    private static final int MARK_COST = 3;
    private static final int TICKS_A_COST = 10;

    private final Kinds kinds;
    private final Colours colours;
    private final Places places;
    private final Finds finds;
    private final Losses losses;
    private final Matcher matcher;
    private final MarkSearch markSearch;
    /** For each LOSS and FIND: NONE before a CLAIM, 0 for a wrong one, else on how many MARKS it is RIGHT. */
    private final int[][] claims;
    private final int[] shares;
    private final int[] out;
    private int outCount;
    private int status;
    private int now;
    private int gap;
    /** BEST costs much to find, so it is found anew only when something that it rests on has changed. */
    private boolean bestIsOld;

    public LostDesk() {
        kinds = new Kinds();
        colours = new Colours();
        places = new Places();
        finds = new Finds();
        losses = new Losses();
        matcher = new Matcher();
        markSearch = new MarkSearch();
        claims = new int[MOST_LOSSES][MOST_FINDS];
        for (int loss = 0; loss < MOST_LOSSES; loss++) {
            Arrays.fill(claims[loss], NONE);
        }
        shares = new int[MOST_FINDERS];
        out = new int[MOST_FINDERS];
        outCount = 0;
        status = OK;
        now = 0;
        gap = FIRST_GAP;
        bestIsOld = true;
    }

    public int status() {
        return status;
    }

    public int kind(int above) {
        if (!kinds.canBeAbove(above)) return refuse(NO_SUCH);
        if (kinds.isFull()) return refuse(TOO_MANY);
        return answer(kinds.add(above));
    }

    public boolean near(int a, int b, boolean is) {
        if (!isColour(a) || !isColour(b) || a == b) return deny(BAD_NUMBER);
        if (colours.areNear(a, b) == is) return deny(ALREADY);
        colours.turn(a, b);
        bestIsOld = true;
        return grant();
    }

    public int place() {
        if (places.isFull()) return refuse(TOO_MANY);
        return answer(places.add());
    }

    public boolean way(int a, int b, int ticks) {
        if (!places.has(a) || !places.has(b) || a == b) return deny(NO_SUCH);
        if (ticks != NONE && !isWithin(ticks, 1, LONGEST_WAY)) return deny(BAD_NUMBER);
        if (ticks == NONE && !places.hasWay(a, b)) return deny(NOT_THERE);
        places.setWay(a, b, ticks);
        bestIsOld = true;
        return grant();
    }

    public int far(int a, int b) {
        if (!places.has(a) || !places.has(b)) return refuse(NO_SUCH);
        int ticks = places.distance(a, b);
        return ticks == NONE ? refuse(NOT_THERE) : answer(ticks);
    }

    public int found(int kind, int colour, int marks, int place, int tick) {
        if (!kinds.has(kind) || !places.has(place)) return refuse(NO_SUCH);
        if (!isColourOrNone(colour) || !areMarks(marks)) return refuse(BAD_NUMBER);
        if (!isWithin(tick, 0, LAST_TOLD_TICK)) return refuse(BAD_NUMBER);
        if (finds.isFull()) return refuse(TOO_MANY);
        bestIsOld = true;
        return answer(finds.add(kind, colour, marks, place, tick));
    }

    public int lost(int kind, int colour, int marks, int place, int from, int to) {
        if (!kinds.has(kind) || !places.has(place)) return refuse(NO_SUCH);
        if (!isColourOrNone(colour) || !areMarks(marks)) return refuse(BAD_NUMBER);
        if (!isWithin(from, 0, LAST_TOLD_TICK) || !isWithin(to, from, LAST_TOLD_TICK)) return refuse(BAD_NUMBER);
        if (losses.isFull()) return refuse(TOO_MANY);
        bestIsOld = true;
        return answer(losses.add(kind, colour, marks, place, from, to));
    }

    public int told(int find, int what) {
        if (!finds.has(find)) return refuse(NO_SUCH);
        switch (what) {
            case 0: return answer(finds.kindOf[find]);
            case 1: return answer(finds.colourOf[find]);
            case 2: return answer(finds.placeOf[find]);
            case 3: return answer(finds.tickOf[find]);
            case 4: return answer(finds.stateOf[find]);
            case 5: return answer(finds.handedTo[find]);
            case 6: return answer(finds.bagOf[find]);
            default: return refuse(BAD_NUMBER);
        }
    }

    public int cost(int loss, int find) {
        if (!losses.has(loss) || !finds.has(find)) return refuse(NO_SUCH);
        int price = pairCost(loss, find);
        return price == NONE ? refuse(CANNOT_BE_ONE) : answer(price);
    }

    public boolean gap(int cost) {
        if (!isWithin(cost, 0, GREATEST_GAP)) return deny(BAD_NUMBER);
        gap = cost;
        bestIsOld = true;
        return grant();
    }

    public int match() {
        freshenBest();
        return answer(matcher.bestCost);
    }

    public int matched(int loss) {
        if (!losses.has(loss)) return refuse(NO_SUCH);
        if (losses.isHanded[loss]) return refuse(CLOSED);
        freshenBest();
        int find = matcher.bestFindOf[loss];
        return find == NONE ? refuse(NOT_THERE) : answer(find);
    }

    public int sure(int loss, int s) {
        if (!losses.has(loss)) return refuse(NO_SUCH);
        if (!isWithin(s, 0, GREATEST_S)) return refuse(BAD_NUMBER);
        if (losses.isHanded[loss]) return refuse(CLOSED);
        freshenBest();
        int find = matcher.bestFindOf[loss];
        if (find == NONE) return refuse(NOT_THERE);
        return answer(matcher.leastCostWithout(loss, find) > matcher.bestCost + s ? 1 : 0);
    }

    public int alike(int find, int marks) {
        if (!finds.has(find)) return refuse(NO_SUCH);
        if (!areMarks(marks)) return refuse(BAD_NUMBER);
        if (!finds.isKept(find)) return refuse(CLOSED);
        int count = 0;
        for (int other = 0; other < finds.count; other++) {
            boolean same = (differingMarks(find, other) & marks) == 0;
            if (same && isKeptInLine(find, other)) count++;
        }
        return answer(count);
    }

    public int questions(int find, int k) {
        if (!finds.has(find)) return refuse(NO_SUCH);
        if (!isWithin(k, 1, MOST_FINDS)) return refuse(BAD_NUMBER);
        if (!finds.isKept(find)) return refuse(CLOSED);
        markSearch.clear();
        for (int other = 0; other < finds.count; other++) {
            if (isKeptInLine(find, other)) markSearch.add(other, differingMarks(find, other));
        }
        int marks = markSearch.fewestMarks(k);
        return marks == NONE ? refuse(NOT_THERE) : answer(marks);
    }

    public int claim(int loss, int find, int asked, int answered) {
        if (!losses.has(loss) || !finds.has(find)) return refuse(NO_SUCH);
        if (asked == 0 || !areMarks(asked) || (answered & ~asked) != 0) return refuse(BAD_NUMBER);
        if (claims[loss][find] != NONE) return refuse(ALREADY);
        if (losses.isHanded[loss] || !finds.isKept(find)) return refuse(CLOSED);
        if (pairCost(loss, find) == NONE) return refuse(CANNOT_BE_ONE);
        boolean right = (finds.marksOf[find] & asked) == answered;
        claims[loss][find] = right ? Integer.bitCount(asked) : 0;
        return answer(right ? 1 : 0);
    }

    public boolean hand(int loss, int find) {
        if (!losses.has(loss) || !finds.has(find)) return deny(NO_SUCH);
        if (losses.isHanded[loss] || !finds.isKept(find)) return deny(CLOSED);
        if (claims[loss][find] < 1) return deny(NOT_THERE);
        if (hasRival(loss, find)) return deny(AS_GOOD_A_CLAIM);
        finds.handBag(find, loss);
        losses.isHanded[loss] = true;
        bestIsOld = true;
        return grant();
    }

    public boolean bag(int a, int b) {
        if (!finds.has(a) || !finds.has(b)) return deny(NO_SUCH);
        if (finds.bagOf[a] == finds.bagOf[b]) return deny(ALREADY);
        if (!finds.isKept(a) || !finds.isKept(b)) return deny(CLOSED);
        finds.joinBags(a, b);
        return grant();
    }

    public boolean keeping(int kind, int days) {
        if (!kinds.has(kind)) return deny(NO_SUCH);
        if (days != NONE && !isWithin(days, 1, LONGEST_KEEPING)) return deny(BAD_NUMBER);
        kinds.daysOf[kind] = days;
        return grant();
    }

    public int due(int find) {
        if (!finds.has(find)) return refuse(NO_SUCH);
        return answer(bagDue(finds.bagOf[find]));
    }

    public int tick(int tick) {
        if (!isWithin(tick, now, LAST_TICK)) return refuse(BAD_NUMBER);
        now = tick;
        int gone = 0;
        for (int find = 0; find < finds.count; find++) {
            boolean standsForBag = finds.bagOf[find] == find;
            if (standsForBag && finds.isKept(find) && bagDue(find) < now) gone += finds.dropBag(find);
        }
        if (gone > 0) bestIsOld = true;
        return answer(gone);
    }

    public int reward(int find, int pennies, int first, int second) {
        if (!finds.has(find)) return refuse(NO_SUCH);
        if (!isWithin(pennies, 0, MOST_PENNIES)) return refuse(BAD_NUMBER);
        int finders = readShares(first, second);
        if (finders == NONE) return refuse(BAD_NUMBER);
        partPennies(pennies, finders);
        return answer(finders);
    }

    public int out(int k) {
        return k >= 0 && k < outCount ? out[k] : NONE;
    }

    private int answer(int value) {
        status = OK;
        return value;
    }

    private int refuse(int why) {
        status = why;
        return NONE;
    }

    private boolean grant() {
        status = OK;
        return true;
    }

    private boolean deny(int why) {
        status = why;
        return false;
    }

    private static boolean isWithin(int number, int least, int greatest) {
        return number >= least && number <= greatest;
    }

    private static boolean isColour(int colour) {
        return isWithin(colour, 0, COLOURS - 1);
    }

    private static boolean isColourOrNone(int colour) {
        return colour == NONE || isColour(colour);
    }

    private static boolean areMarks(int marks) {
        return isWithin(marks, 0, ALL_MARKS);
    }

    /** COST of a LOSS and a FIND, or NONE if they CAN'T be one. */
    private int pairCost(int loss, int find) {
        int steps = kinds.steps(losses.kindOf[loss], finds.kindOf[find]);
        int shades = colours.shades(losses.colourOf[loss], finds.colourOf[find]);
        if (steps == NONE || shades == NONE) return NONE;
        int ticks = places.distance(losses.placeOf[loss], finds.placeOf[find]);
        int foundAt = finds.tickOf[find];
        if (ticks == NONE || ticks > foundAt - losses.fromOf[loss]) return NONE;
        int missing = Integer.bitCount(losses.marksOf[loss] & ~finds.marksOf[find]);
        int late = Math.max(0, foundAt - losses.toOf[loss] - ticks);
        return STEP_COST * steps + shades + MARK_COST * missing + late / TICKS_A_COST;
    }

    private void freshenBest() {
        if (!bestIsOld) return;
        matcher.begin(losses.count, finds.count);
        for (int loss = 0; loss < losses.count; loss++) {
            boolean open = !losses.isHanded[loss];
            matcher.setLoss(loss, open, gap);
            for (int find = 0; find < finds.count; find++) {
                boolean free = open && finds.isKept(find);
                matcher.setPrice(loss, find, free ? pairCost(loss, find) : NONE);
            }
        }
        matcher.findBest();
        bestIsOld = false;
    }

    private int differingMarks(int find, int other) {
        return finds.marksOf[find] ^ finds.marksOf[other];
    }

    private boolean isKeptInLine(int find, int other) {
        return finds.isKept(other) && kinds.steps(finds.kindOf[find], finds.kindOf[other]) != NONE;
    }

    /** Whether another LOSS, not HANDED, has a RIGHT CLAIM on as many MARKS or more. */
    private boolean hasRival(int loss, int find) {
        for (int other = 0; other < losses.count; other++) {
            boolean asGood = claims[other][find] >= claims[loss][find];
            if (other != loss && asGood && !losses.isHanded[other]) return true;
        }
        return false;
    }

    /** DUE of the BAG whose least FIND is told. */
    private int bagDue(int leastFind) {
        int latest = 0;
        for (int find = leastFind; find < finds.count; find++) {
            if (finds.bagOf[find] == leastFind) {
                int days = kinds.keepingOf(finds.kindOf[find]);
                latest = Math.max(latest, finds.tickOf[find] + TICKS_A_DAY * days);
            }
        }
        return latest;
    }

    /** How many finders have a share, or NONE if the shares can't be. */
    private int readShares(int first, int second) {
        int finders = 0;
        for (int k = 0; k < MOST_FINDERS; k++) {
            int number = k < 4 ? first : second;
            int share = number >>> 8 * (k % 4) & 255;
            boolean behindGap = share > 0 && finders < k;
            if (share > GREATEST_SHARE || behindGap) return NONE;
            shares[k] = share;
            if (share > 0) finders++;
        }
        return finders == 0 ? NONE : finders;
    }

    private void partPennies(int pennies, int finders) {
        int allShares = 0;
        for (int k = 0; k < finders; k++) {
            allShares += shares[k];
        }
        if (allShares < 1) return;
        int left = pennies;
        for (int k = 0; k < finders; k++) {
            out[k] = pennies * shares[k] / allShares;
            left -= out[k];
        }
        // What rounding leaves is less than a penny for each finder, so one round is enough.
        for (int k = 0; k < left && k < finders; k++) {
            out[k]++;
        }
        outCount = finders;
    }

    /** KINDS, their LINES and their KEEPING. */
    private static final class Kinds {
        private final int[] aboveOf = new int[MOST_KINDS];
        /** The LINE of each KIND, a bit for each KIND in it, so that its length and its members are read at once. */
        private final long[] lineOf = new long[MOST_KINDS];
        private final int[] daysOf = new int[MOST_KINDS];
        private int count = 0;

        boolean has(int kind) {
            return kind >= 0 && kind < count;
        }

        boolean isFull() {
            return count >= MOST_KINDS;
        }

        boolean canBeAbove(int above) {
            return count == 0 ? above == NONE : has(above);
        }

        int add(int above) {
            int kind = count;
            long rest = has(above) ? lineOf[above] : 0L;
            lineOf[kind] = rest | 1L << kind;
            aboveOf[kind] = above;
            daysOf[kind] = NONE;
            count++;
            return kind;
        }

        /** Steps in the LINE from one KIND to the other, or NONE if neither is in the LINE of the other. */
        int steps(int a, int b) {
            boolean inLine = (lineOf[a] >>> b & 1L) != 0L || (lineOf[b] >>> a & 1L) != 0L;
            return inLine ? Math.abs(Long.bitCount(lineOf[a]) - Long.bitCount(lineOf[b])) : NONE;
        }

        int keepingOf(int kind) {
            int at = kind;
            for (int step = 0; step < MOST_KINDS && has(at); step++) {
                if (daysOf[at] != NONE) return daysOf[at];
                at = aboveOf[at];
            }
            return USUAL_KEEPING;
        }
    }

    /** Which COLOURS are NEAR. */
    private static final class Colours {
        private final int[] nearTo = new int[COLOURS];

        boolean areNear(int a, int b) {
            return (nearTo[a] >>> b & 1) != 0;
        }

        void turn(int a, int b) {
            nearTo[a] ^= 1 << b;
            nearTo[b] ^= 1 << a;
        }

        /** What two COLOURS add to a COST, or NONE if they can't be of one thing. */
        int shades(int a, int b) {
            if (a == b) return 0;
            if (a == NONE || b == NONE) return ONE_COLOUR_COST;
            return areNear(a, b) ? NEAR_COST : NONE;
        }
    }

    /** PLACES, the WAYS between them, and how FAR they are. */
    private static final class Places {
        private final int[][] ticksOf = new int[MOST_PLACES][MOST_PLACES];
        /** FAR from each PLACE; a row is measured when it is first asked for after a change of the WAYS. */
        private final int[][] farOf = new int[MOST_PLACES][MOST_PLACES];
        private final boolean[] isMeasured = new boolean[MOST_PLACES];
        private int count = 0;

        boolean has(int place) {
            return place >= 0 && place < count;
        }

        boolean isFull() {
            return count >= MOST_PLACES;
        }

        int add() {
            int place = count;
            // The whole row, so that those before already have no WAY to the ones that come.
            Arrays.fill(ticksOf[place], NONE);
            count++;
            return place;
        }

        boolean hasWay(int a, int b) {
            return ticksOf[a][b] != NONE;
        }

        void setWay(int a, int b, int ticks) {
            ticksOf[a][b] = ticks;
            ticksOf[b][a] = ticks;
            forgetFar();
        }

        /** FAR, or NONE if there are no ways. */
        int distance(int a, int b) {
            if (!isMeasured[a]) measureFrom(a);
            return farOf[a][b];
        }

        private void forgetFar() {
            for (int place = 0; place < count; place++) {
                isMeasured[place] = false;
            }
        }

        private void measureFrom(int start) {
            int[] far = farOf[start];
            Arrays.fill(far, NONE);
            far[start] = 0;
            int passed = 0;
            for (int step = 0; step < count; step++) {
                int at = nearest(far, passed);
                if (at == NONE) break;
                passed |= 1 << at;
                lookFrom(at, far);
            }
            isMeasured[start] = true;
        }

        private int nearest(int[] far, int passed) {
            int nearest = NONE;
            for (int place = 0; place < count; place++) {
                boolean open = far[place] != NONE && (passed >>> place & 1) == 0;
                if (open && (nearest == NONE || far[place] < far[nearest])) nearest = place;
            }
            return nearest;
        }

        private void lookFrom(int at, int[] far) {
            for (int place = 0; place < count; place++) {
                if (hasWay(at, place)) {
                    int ticks = far[at] + ticksOf[at][place];
                    if (far[place] == NONE || ticks < far[place]) far[place] = ticks;
                }
            }
        }
    }

    /** FINDS, each with the least FIND of its BAG; those of one BAG are always in one state. */
    private static final class Finds {
        private final int[] kindOf = new int[MOST_FINDS];
        private final int[] colourOf = new int[MOST_FINDS];
        private final int[] marksOf = new int[MOST_FINDS];
        private final int[] placeOf = new int[MOST_FINDS];
        private final int[] tickOf = new int[MOST_FINDS];
        private final int[] stateOf = new int[MOST_FINDS];
        private final int[] handedTo = new int[MOST_FINDS];
        private final int[] bagOf = new int[MOST_FINDS];
        private int count = 0;

        boolean has(int find) {
            return find >= 0 && find < count;
        }

        boolean isFull() {
            return count >= MOST_FINDS;
        }

        int add(int kind, int colour, int marks, int place, int tick) {
            int find = count;
            kindOf[find] = kind;
            colourOf[find] = colour;
            marksOf[find] = marks;
            placeOf[find] = place;
            tickOf[find] = tick;
            stateOf[find] = KEPT;
            handedTo[find] = NONE;
            bagOf[find] = find;
            count++;
            return find;
        }

        boolean isKept(int find) {
            return stateOf[find] == KEPT;
        }

        void joinBags(int a, int b) {
            int least = Math.min(bagOf[a], bagOf[b]);
            int other = Math.max(bagOf[a], bagOf[b]);
            for (int find = 0; find < count; find++) {
                if (bagOf[find] == other) bagOf[find] = least;
            }
        }

        void handBag(int find, int loss) {
            for (int other = 0; other < count; other++) {
                if (bagOf[other] == bagOf[find]) {
                    stateOf[other] = HANDED;
                    handedTo[other] = loss;
                }
            }
        }

        /** Lets a whole BAG be GONE; how many FINDS it has. */
        int dropBag(int find) {
            int dropped = 0;
            for (int other = 0; other < count; other++) {
                if (bagOf[other] == bagOf[find]) {
                    stateOf[other] = GONE;
                    dropped++;
                }
            }
            return dropped;
        }
    }

    /** LOSSES. */
    private static final class Losses {
        private final int[] kindOf = new int[MOST_LOSSES];
        private final int[] colourOf = new int[MOST_LOSSES];
        private final int[] marksOf = new int[MOST_LOSSES];
        private final int[] placeOf = new int[MOST_LOSSES];
        private final int[] fromOf = new int[MOST_LOSSES];
        private final int[] toOf = new int[MOST_LOSSES];
        private final boolean[] isHanded = new boolean[MOST_LOSSES];
        private int count = 0;

        boolean has(int loss) {
            return loss >= 0 && loss < count;
        }

        boolean isFull() {
            return count >= MOST_LOSSES;
        }

        int add(int kind, int colour, int marks, int place, int from, int to) {
            int loss = count;
            kindOf[loss] = kind;
            colourOf[loss] = colour;
            marksOf[loss] = marks;
            placeOf[loss] = place;
            fromOf[loss] = from;
            toOf[loss] = to;
            isHanded[loss] = false;
            count++;
            return loss;
        }
    }

    /** Finds the fewest MARKS that part enough FINDS from one of them. */
    private static final class MarkSearch {
        /** For each MARK the FINDS that it parts, a bit each. */
        private final int[] partedBy = new int[MARKS];
        /** For each MARK all FINDS that the MARKS below it part. */
        private final int[] partedBelow = new int[MARKS + 1];
        private int count = 0;
        private int need = 0;
        private int mostByOne = 0;

        void clear() {
            Arrays.fill(partedBy, 0);
            count = 0;
        }

        void add(int find, int differing) {
            count++;
            for (int mark = 0; mark < MARKS; mark++) {
                if ((differing >>> mark & 1) != 0) partedBy[mark] |= 1 << find;
            }
        }

        /** The least sum of the fewest MARKS on which at most k are ALIKE, or NONE. */
        int fewestMarks(int k) {
            need = count - k;
            sumUp();
            for (int size = 0; size <= MARKS; size++) {
                int sum = leastSum(size, MARKS, 0);
                if (sum != NONE) return sum;
            }
            return NONE;
        }

        private void sumUp() {
            mostByOne = 0;
            for (int mark = 0; mark < MARKS; mark++) {
                partedBelow[mark + 1] = partedBelow[mark] | partedBy[mark];
                mostByOne = Math.max(mostByOne, Integer.bitCount(partedBy[mark]));
            }
        }

        /**
         * The least sum of so many MARKS below one that part enough with those parted already, or NONE.
         * The highest MARK decides which sum is less, so it is chosen first, from the lowest on.
         */
        private int leastSum(int size, int below, int parted) {
            int reached = Integer.bitCount(parted);
            if (size <= 0) return reached >= need ? 0 : NONE;
            if (reached + size * mostByOne < need) return NONE;
            if (Integer.bitCount(parted | partedBelow[below]) < need) return NONE;
            for (int mark = size - 1; mark < below; mark++) {
                int sum = leastSum(size - 1, mark, parted | partedBy[mark]);
                if (sum != NONE) return sum | 1 << mark;
            }
            return NONE;
        }
    }

    /**
     * Finds BEST by the Hungarian method. Each LOSS has a seat: a FIND, or the bench, which is behind all FINDS
     * and has room for all. LOSSES and seats have dues: those of a LOSS and a seat together are at most their
     * price, and what is left of the price is the slack. A seating is of least COST just when no LOSS sits with
     * slack and no FIND with a due other than 0 is left empty; so from one of them moves without slack lead to
     * all others.
     */
    private static final class Matcher {
        /** Far above all COSTS, and low enough that sums of it stay in an int. */
        private static final int BARRED = 1000000;
        private static final int EMPTY = -1;
        private static final int NOBODY = -2;

        private final int[][] priceOf = new int[MOST_LOSSES][MOST_FINDS + 1];
        private final boolean[] isOpen = new boolean[MOST_LOSSES];
        private final int[] bestFindOf = new int[MOST_LOSSES];
        /** NONE for a LOSS that is HANDED: it takes no part. */
        private final int[] seatOf = new int[MOST_LOSSES];
        private final int[] sitterOf = new int[MOST_FINDS];
        private final int[] lossDue = new int[MOST_LOSSES];
        private final int[] seatDue = new int[MOST_FINDS + 1];
        private final int[] slackOf = new int[MOST_FINDS + 1];
        private final int[] seatBefore = new int[MOST_FINDS + 1];
        private final int[] moverOf = new int[MOST_FINDS + 1];
        private final int[] seatAfter = new int[MOST_FINDS + 1];
        private final int[] queue = new int[MOST_FINDS + 1];
        private int lossCount = 0;
        private int bench = 0;
        private int bestCost = 0;

        void begin(int losses, int finds) {
            lossCount = losses;
            bench = finds;
        }

        void setLoss(int loss, boolean open, int gap) {
            isOpen[loss] = open;
            priceOf[loss][bench] = gap;
        }

        void setPrice(int loss, int find, int price) {
            priceOf[loss][find] = price == NONE ? BARRED : price;
        }

        void findBest() {
            seatAll();
            for (int loss = 0; loss < lossCount; loss++) {
                if (seatOf[loss] != NONE) settle(loss);
            }
            bestCost = seatingCost();
            for (int loss = 0; loss < lossCount; loss++) {
                bestFindOf[loss] = seatOf[loss] == bench ? NONE : seatOf[loss];
            }
        }

        /** The least COST of all MATCHINGS without a pair; BEST stays as it was found. */
        int leastCostWithout(int loss, int find) {
            int price = priceOf[loss][find];
            priceOf[loss][find] = BARRED;
            seatAll();
            priceOf[loss][find] = price;
            return seatingCost();
        }

        private void seatAll() {
            Arrays.fill(lossDue, 0);
            Arrays.fill(seatDue, 0);
            Arrays.fill(sitterOf, EMPTY);
            Arrays.fill(seatOf, NONE);
            for (int loss = 0; loss < lossCount; loss++) {
                if (isOpen[loss]) seatOne(loss);
            }
        }

        private int seatingCost() {
            int sum = 0;
            for (int loss = 0; loss < lossCount; loss++) {
                int seat = seatOf[loss];
                if (seat != NONE) sum += priceOf[loss][seat];
            }
            return sum;
        }

        private int slack(int loss, int seat) {
            return priceOf[loss][seat] - lossDue[loss] - seatDue[seat];
        }

        private boolean isEmpty(int seat) {
            return seat == bench || sitterOf[seat] == EMPTY;
        }

        private void sit(int loss, int seat) {
            seatOf[loss] = seat;
            if (seat != bench) sitterOf[seat] = loss;
        }

        private void leaveEmpty(int seat) {
            if (seat != bench) sitterOf[seat] = EMPTY;
        }

        /** Seats one LOSS more by the cheapest chain of moves; the bench ends the chain at the latest. */
        private void seatOne(int newcomer) {
            Arrays.fill(slackOf, BARRED);
            int passed = 0;
            int seat = NONE;
            int loss = newcomer;
            for (int step = 0; step <= bench; step++) {
                seat = nextSeat(loss, seat, passed);
                raiseDues(newcomer, passed, slackOf[seat]);
                if (isEmpty(seat)) break;
                passed |= 1 << seat;
                loss = sitterOf[seat];
            }
            moveUp(newcomer, seat);
        }

        private int nextSeat(int loss, int from, int passed) {
            int next = bench;
            for (int seat = 0; seat <= bench; seat++) {
                if ((passed >>> seat & 1) != 0) continue;
                int slack = slack(loss, seat);
                if (slack < slackOf[seat]) {
                    slackOf[seat] = slack;
                    seatBefore[seat] = from;
                }
                if (slackOf[seat] < slackOf[next]) next = seat;
            }
            return next;
        }

        private void raiseDues(int newcomer, int passed, int by) {
            lossDue[newcomer] += by;
            for (int seat = 0; seat <= bench; seat++) {
                int sitter = (passed >>> seat & 1) != 0 ? sitterOf[seat] : EMPTY;
                if (sitter == EMPTY) {
                    slackOf[seat] -= by;
                } else {
                    lossDue[sitter] += by;
                    seatDue[seat] -= by;
                }
            }
        }

        private void moveUp(int newcomer, int last) {
            int seat = last;
            for (int step = 0; step <= bench && seat != NONE; step++) {
                int from = seatBefore[seat];
                sit(from == NONE ? newcomer : sitterOf[from], seat);
                seat = from;
            }
        }

        /** Gives a LOSS the least seat that it can have at the same COST while those before it keep theirs. */
        private void settle(int loss) {
            int home = seatOf[loss];
            int all = -1;
            if (leastSeat(loss, home, all) == home) return;
            int seat = leastSeat(loss, home, seatsThatLead(loss, home));
            if (seat != home) moveRound(loss, seat, home);
        }

        private int leastSeat(int loss, int home, int among) {
            for (int seat = 0; seat < home; seat++) {
                if ((among >>> seat & 1) != 0 && slack(loss, seat) == 0) return seat;
            }
            return home;
        }

        /** The seats, a bit each, from which moves without cost lead to the home that a LOSS would leave. */
        private int seatsThatLead(int loss, int home) {
            int reached = 1 << home;
            queue[0] = home;
            int length = 1;
            for (int k = 0; k < length && k <= bench; k++) {
                for (int seat = 0; seat <= bench; seat++) {
                    if ((reached >>> seat & 1) != 0) continue;
                    int mover = freeMover(seat, queue[k], loss);
                    if (mover == NOBODY) continue;
                    reached |= 1 << seat;
                    moverOf[seat] = mover;
                    seatAfter[seat] = queue[k];
                    queue[length] = seat;
                    length++;
                }
            }
            return reached;
        }

        /** Which LOSS behind the settled ones can move at no cost; EMPTY if it is the emptiness that moves. */
        private int freeMover(int from, int to, int settled) {
            if (isEmpty(from) && seatDue[to] == 0) return EMPTY;
            if (from != bench) {
                int loss = sitterOf[from];
                return loss > settled && slack(loss, to) == 0 ? loss : NOBODY;
            }
            for (int loss = settled + 1; loss < lossCount; loss++) {
                if (seatOf[loss] == bench && slack(loss, to) == 0) return loss;
            }
            return NOBODY;
        }

        private void moveRound(int loss, int start, int home) {
            sit(loss, start);
            int seat = start;
            for (int step = 0; step <= bench && seat != home; step++) {
                int after = seatAfter[seat];
                if (moverOf[seat] == EMPTY) {
                    leaveEmpty(after);
                } else {
                    sit(moverOf[seat], after);
                }
                seat = after;
            }
        }
    }
}
