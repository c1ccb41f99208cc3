import java.util.Arrays;

/**
 * Lots for gifts: who gives to whom. A set of ONES is held as bits: bit i stands for ONE i.
 *
 * Nearly every answer is a number of WAYS under some narrowing (this ONE gives to that one), so
 * there is one counter, countWays, and a row for each ONE, "rows", that the narrowing works on.
 * Nothing is made after the constructor.
 */
public final class GiftLots {
    public static final int NONE = -6, UNKNOWN = -1, OUTSIDE = -2, STATE = -3, NO = -5;

    private static final int FINE = 0;
    private static final int FEWEST_ONES = 2;
    private static final int MOST_ONES = 8;
    private static final int ONES_AT_FIRST = 4;
    private static final int SHORTEST_ROUND = 2;
    private static final int MOST_ROUNDS = MOST_ONES / SHORTEST_ROUND;
    private static final int MOST_ROOKS = 8;
    private static final int SETS = 1 << MOST_ONES;

    private int count;
    private int shortest;
    private final int[] board;
    private final int[] hand;

    /** Whom each ONE may give to in the count at work: the board, narrowed. */
    private final int[] rows;
    /** Chains that begin at the least ONE of a set, go through all of it, and end at a given one. */
    private final int[] chains;
    /** Of a set: the ROUNDS that go through all of it, if it is not too small for one. */
    private final int[] closed;
    /** Of a set: the ways to split it into ROUNDS; rooks() sums up here too. */
    private final int[] splits;

    /** The WAY or MEND that is being put together. */
    private final int[] trial;
    private final int[] firstMend;
    private int fewestChanges;
    private int mendsFound;

    public GiftLots() {
        board = new int[MOST_ONES];
        hand = new int[MOST_ONES];
        rows = new int[MOST_ONES];
        chains = new int[SETS * MOST_ONES];
        closed = new int[SETS];
        splits = new int[SETS];
        trial = new int[MOST_ONES];
        firstMend = new int[MOST_ONES];
        begin(ONES_AT_FIRST);
    }

    // ---- 1 who may

    public int ones(int n) {
        if (n < FEWEST_ONES || n > MOST_ONES) {
            return OUTSIDE;
        }
        int were = count;
        begin(n);
        return were;
    }

    public int may(int from, int to, boolean is) {
        int refusal = refusePair(from, to);
        if (refusal != FINE) {
            return refusal;
        }
        int might = mayGive(from, to) ? 1 : 0;
        if (is) {
            board[from] |= bit(to);
        } else {
            barPair(from, to);
        }
        return might;
    }

    public int couple(int a, int b) {
        int refusal = refusePair(a, b);
        if (refusal != FINE) {
            return refusal;
        }
        return barPair(a, b) + barPair(b, a);
    }

    public int bar() {
        int barred = 0;
        for (int one = 0; one < count; one++) {
            barred += barPair(one, hand[one]);
        }
        return barred;
    }

    public int least(int n) {
        if (n < SHORTEST_ROUND || n > MOST_ONES) {
            return OUTSIDE;
        }
        int was = shortest;
        shortest = n;
        return was;
    }

    public int ways() {
        openRows();
        return countWays(shortest);
    }

    public int free() {
        openRows();
        return countWays(SHORTEST_ROUND);
    }

    public int way(int k, int one) {
        if (!isOne(one)) {
            return UNKNOWN;
        }
        return findWay(k) ? trial[one] : NO;
    }

    public int rounds(int n) {
        if (n < 1 || n > MOST_ROUNDS) {
            return 0;
        }
        openRows();
        closeRounds(shortest);
        return countSplits(n);
    }

    public int both(int from, int to) {
        if (!isOne(from) || !isOne(to)) {
            return UNKNOWN;
        }
        return countGiving(from, to);
    }

    public int rooks(int k) {
        if (k < 0 || k > MOST_ROOKS) {
            return OUTSIDE;
        }
        placeRooks();
        int sum = 0;
        for (int getters = 0; getters <= everyone(); getters++) {
            if (Integer.bitCount(getters) == k) {
                sum += splits[getters];
            }
        }
        return sum;
    }

    public int heap() {
        int best = 0;
        for (int set = 1; set <= everyone(); set++) {
            if (Integer.bitCount(gettersOf(set)) < Integer.bitCount(set) && isHeapBefore(set, best)) {
                best = set;
            }
        }
        return best;
    }

    // ---- 2 the hand

    public int lay(int from, int to) {
        if (!isOne(from) || from == to || (to != -1 && !isOne(to))) {
            return UNKNOWN;
        }
        if (to != -1 && isTakenFromOther(from, to)) {
            return STATE;
        }
        int did = hand[from];
        hand[from] = to == -1 ? NONE : to;
        return did;
    }

    public int laid(int one) {
        return isOne(one) ? hand[one] : UNKNOWN;
    }

    public int draw(int k) {
        if (!findWay(k)) {
            return NO;
        }
        System.arraycopy(trial, 0, hand, 0, count);
        return 1;
    }

    public int rank() {
        int refusal = refuseHand();
        if (refusal != FINE) {
            return refusal;
        }
        openRows();
        int before = 0;
        for (int one = 0; one < count; one++) {
            int given = bit(hand[one]);
            int open = rows[one];
            rows[one] = open & (given - 1);
            before += countWays(shortest);
            rows[one] = open & given;
        }
        return before;
    }

    public int share(int i, int j) {
        if (!isOne(i) || !isOne(j)) {
            return UNKNOWN;
        }
        if (!givesBelow(i)) {
            return STATE;
        }
        openRows();
        for (int one = 0; one < i; one++) {
            narrow(one, hand[one]);
        }
        narrow(i, j);
        return countWays(shortest);
    }

    public int knows(int one) {
        if (!isOne(one)) {
            return UNKNOWN;
        }
        if (hand[one] == NONE) {
            return STATE;
        }
        return countGiving(one, hand[one]);
    }

    public int sure(int one, int other) {
        if (!isOne(one) || !isOne(other)) {
            return UNKNOWN;
        }
        if (hand[one] == NONE) {
            return STATE;
        }
        int possible = countGiving(one, hand[one]);
        if (possible == 0) {
            return NO;
        }
        return givesAlike(other, possible) ? 1 : 0;
    }

    public int changes(int x) {
        int refusal = refuseFall(x);
        if (refusal != FINE) {
            return refusal;
        }
        findMends(x);
        return mendsFound == 0 ? NONE : fewestChanges;
    }

    public int mends(int x) {
        int refusal = refuseFall(x);
        if (refusal != FINE) {
            return refusal;
        }
        findMends(x);
        return mendsFound;
    }

    public int mend(int x, int one) {
        if (!isOne(x) || !isOne(one) || x == one) {
            return UNKNOWN;
        }
        int refusal = refuseHand();
        if (refusal != FINE) {
            return refusal;
        }
        findMends(x);
        return mendsFound == 0 ? NONE : firstMend[one];
    }

    public int told(int what) {
        switch (what) {
            case 0:
                return count;
            case 1:
                return shortest;
            case 2:
                return countPairs();
            case 3:
                return countGivers();
            default:
                return OUTSIDE;
        }
    }

    // ---- ones, the board and the hand

    private void begin(int n) {
        count = n;
        shortest = SHORTEST_ROUND;
        for (int one = 0; one < MOST_ONES; one++) {
            board[one] = one < n ? everyone() & ~bit(one) : 0;
            hand[one] = NONE;
        }
    }

    private boolean isOne(int n) {
        return n >= 0 && n < count;
    }

    /** The set of this ONE alone; the empty set for NONE. */
    private static int bit(int one) {
        return one >= 0 && one < MOST_ONES ? 1 << one : 0;
    }

    private int everyone() {
        return (1 << count) - 1;
    }

    private boolean mayGive(int from, int to) {
        return isOne(from) && (board[from] & bit(to)) != 0;
    }

    private int refusePair(int a, int b) {
        if (!isOne(a) || !isOne(b)) {
            return UNKNOWN;
        }
        return a == b ? NO : FINE;
    }

    private int barPair(int from, int to) {
        if (!mayGive(from, to)) {
            return 0;
        }
        board[from] &= ~bit(to);
        return 1;
    }

    private int countPairs() {
        int pairs = 0;
        for (int one = 0; one < count; one++) {
            pairs += Integer.bitCount(board[one]);
        }
        return pairs;
    }

    private int countGivers() {
        int givers = 0;
        for (int one = 0; one < count; one++) {
            if (hand[one] != NONE) {
                givers++;
            }
        }
        return givers;
    }

    private boolean isTakenFromOther(int from, int to) {
        for (int one = 0; one < count; one++) {
            if (one != from && hand[one] == to) {
                return true;
            }
        }
        return false;
    }

    /** Whether all ONES below this one give in the hand. */
    private boolean givesBelow(int one) {
        for (int lower = 0; lower < one && lower < count; lower++) {
            if (hand[lower] == NONE) {
                return false;
            }
        }
        return true;
    }

    private int refuseHand() {
        if (!givesBelow(count)) {
            return STATE;
        }
        openRows();
        for (int one = 0; one < count; one++) {
            narrow(one, hand[one]);
        }
        return countWays(shortest) == 0 ? NO : FINE;
    }

    private int refuseFall(int x) {
        return isOne(x) ? refuseHand() : UNKNOWN;
    }

    // ---- counting the ways

    private void openRows() {
        System.arraycopy(board, 0, rows, 0, MOST_ONES);
    }

    private void narrow(int from, int to) {
        if (isOne(from)) {
            rows[from] &= bit(to);
        }
    }

    private int countGiving(int from, int to) {
        openRows();
        narrow(from, to);
        return countWays(shortest);
    }

    /** Whether one gives to the same in all of the WAYS by the rows, of which there are so many. */
    private boolean givesAlike(int one, int possible) {
        if (!isOne(one)) {
            return false;
        }
        int open = rows[one];
        for (int to = 0; to < count; to++) {
            rows[one] = open & bit(to);
            int some = rows[one] == 0 ? 0 : countWays(shortest);
            if (some > 0) {
                return some == possible;
            }
        }
        return false;
    }

    /** The number of WAYS by the rows in which no ROUND is shorter than told. */
    private int countWays(int least) {
        closeRounds(least);
        int all = everyone();
        splits[0] = 1;
        for (int set = 1; set <= all; set++) {
            // ONE 0 leaves with the first ROUND taken out, so no lesser set with it is asked for.
            if ((set & 1) == 0 || set == all) {
                splits[set] = takeOutRound(set);
            }
        }
        return splits[all];
    }

    /** The number of WAYS that split into just so many of the ROUNDS closed before. */
    private int countSplits(int number) {
        int all = everyone();
        Arrays.fill(splits, 0);
        splits[0] = 1;
        for (int round = 0; round < number; round++) {
            // Downwards, so that the lesser sets still tell of one ROUND fewer.
            for (int set = all; set > 0; set--) {
                splits[set] = takeOutRound(set);
            }
            splits[0] = 0;
        }
        return splits[all];
    }

    /** Sums over the ROUND of the least ONE of the set: those ROUNDS, by the splits of the rest. */
    private int takeOutRound(int set) {
        int low = set & -set;
        int rest = set ^ low;
        int sum = 0;
        for (int part = rest; part > 0; part = (part - 1) & rest) {
            sum += closed[part | low] * splits[rest ^ part];
        }
        return sum;
    }

    private void closeRounds(int least) {
        int all = everyone();
        Arrays.fill(chains, 0);
        for (int one = 0; one < count; one++) {
            chains[chainAt(bit(one), one)] = 1;
        }
        for (int set = 1; set <= all; set++) {
            int ending = lengthenChains(set);
            closed[set] = Integer.bitCount(set) < least ? 0 : ending;
        }
    }

    private static int chainAt(int set, int end) {
        return set * MOST_ONES + end;
    }

    /** Leads the chains of a set on by one more ONE; the number of those that close to a ROUND. */
    private int lengthenChains(int set) {
        int low = set & -set;
        int higher = everyone() & ~set & -low;
        int ending = 0;
        for (int end = 0; end < count; end++) {
            int number = chains[chainAt(set, end)];
            int open = number == 0 ? 0 : rows[end] & higher;
            for (int to = 0; to < count && open != 0; to++) {
                if ((open & bit(to)) != 0) {
                    chains[chainAt(set | bit(to), to)] += number;
                }
            }
            ending += (rows[end] & low) == 0 ? 0 : number;
        }
        return ending;
    }

    /** Puts WAY k into the trial, if there is one. */
    private boolean findWay(int k) {
        if (k < 0) {
            return false;
        }
        openRows();
        int left = k;
        int taken = 0;
        for (int one = 0; one < count; one++) {
            left = chooseGetter(one, left, rows[one] & ~taken);
            if (left < 0) {
                return false;
            }
            taken |= bit(trial[one]);
        }
        return true;
    }

    /** Narrows a ONE to whom it gives to in WAY left by the rows: which WAY that is then, or -1. */
    private int chooseGetter(int one, int left, int open) {
        if (!isOne(one)) {
            return -1;
        }
        int skipped = 0;
        for (int to = 0; to < count; to++) {
            rows[one] = open & bit(to);
            int some = rows[one] == 0 ? 0 : countWays(shortest);
            if (left - skipped < some) {
                trial[one] = to;
                return left - skipped;
            }
            skipped += some;
        }
        return -1;
    }

    // ---- rooks and the heap

    /** Sums up, for each set of getters, the ways to take barred pairs with just these getters. */
    private void placeRooks() {
        int all = everyone();
        Arrays.fill(splits, 0);
        splits[0] = 1;
        for (int giver = 0; giver < count; giver++) {
            int barred = all & ~board[giver];
            // Downwards, so that no giver is taken twice.
            for (int getters = all; getters > 0; getters--) {
                splits[getters] += sumWithoutOne(getters, getters & barred);
            }
        }
    }

    private int sumWithoutOne(int getters, int removable) {
        int sum = 0;
        for (int one = 0; one < count; one++) {
            if ((removable & bit(one)) != 0) {
                sum += splits[getters & ~bit(one)];
            }
        }
        return sum;
    }

    private int gettersOf(int givers) {
        int getters = 0;
        for (int one = 0; one < count; one++) {
            if ((givers & bit(one)) != 0) {
                getters |= board[one];
            }
        }
        return getters;
    }

    private static boolean isHeapBefore(int set, int best) {
        int size = Integer.bitCount(set);
        int bestSize = Integer.bitCount(best);
        if (best == 0 || size != bestSize) {
            return best == 0 || size < bestSize;
        }
        // Of two sets of one size the lesser numbers have the one with the lowest ONE not in both.
        int differing = set ^ best;
        return (set & differing & -differing) != 0;
    }

    // ---- mending the hand

    /** Finds the mends of fewest changes when x falls out of the hand, which is a WAY. */
    private void findMends(int x) {
        fewestChanges = MOST_ONES;
        mendsFound = 0;
        layMend(0, x, 0, 0);
    }

    /** Leads the trial on from this ONE; so it goes no deeper than there are ONES. */
    private void layMend(int one, int x, int taken, int changed) {
        int giver = one == x ? one + 1 : one;
        if (isOne(giver)) {
            layGetters(giver, x, taken, changed);
        } else {
            judgeMend(x, changed);
        }
    }

    private void layGetters(int giver, int x, int taken, int changed) {
        int open = board[giver] & ~taken & ~bit(x);
        for (int to = 0; to < count; to++) {
            int sum = changed + (hand[giver] == to ? 0 : 1);
            if ((open & bit(to)) != 0 && sum <= fewestChanges) {
                trial[giver] = to;
                layMend(giver + 1, x, taken | bit(to), sum);
            }
        }
    }

    private void judgeMend(int x, int changed) {
        if (!hasLongRounds(x)) {
            return;
        }
        if (mendsFound == 0 || changed < fewestChanges) {
            fewestChanges = changed;
            mendsFound = 0;
            System.arraycopy(trial, 0, firstMend, 0, count);
        }
        mendsFound++;
    }

    /** Whether no ROUND of the trial, in which x is left out, is too short. */
    private boolean hasLongRounds(int x) {
        for (int one = 0; one < count; one++) {
            if (one != x && roundFrom(one) < shortest) {
                return false;
            }
        }
        return true;
    }

    private int roundFrom(int start) {
        int length = 0;
        int at = start;
        for (int step = 0; step < count && isOne(at); step++) {
            at = trial[at];
            length++;
            if (at == start) {
                return length;
            }
        }
        return length;
    }
}
