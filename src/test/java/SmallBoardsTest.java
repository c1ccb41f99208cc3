/**
 * Every board of two and of three ONES, by every LEAST and with every hand, and some boards of four: every
 * question with every number from two below the first to two beyond the last, against the oracle.
 */
public final class SmallBoardsTest {
    private static final int LEAST_OF_ALL = 2, MOST_OF_ALL = 8;

    private static final Due due = new Due();

    public static void main(String[] args) {
        for (int n = 2; n <= 3; n++) {
            int boards = 1 << n * (n - 1);
            for (int board = 0; board < boards; board++) {
                for (int least = LEAST_OF_ALL; least <= MOST_OF_ALL; least++) {
                    hands(n, board, least, 1);
                }
            }
        }
        for (int board = 0; board < 1 << 12; board += 37) {
            hands(4, board, 2 + board % 3, 7);
        }
        // None, one or two pairs of four barred.
        for (int barred = 0; barred < 12 * 12; barred++) {
            hands(4, 0xFFF & ~(1 << barred % 12) & ~(1 << barred / 12), 2 + barred % 2, 5);
        }
        due.end();
    }

    /** Every hand, or each so many-th of them; the figures of its number by n + 1 tell whom each gives to. */
    private static void hands(int n, int board, int least, int step) {
        int hands = 1;
        for (int one = 0; one < n; one++) {
            hands *= n + 1;
        }
        for (int hand = board % step; hand < hands && !due.hasWrong(); hand += step) {
            if (isHand(n, hand)) {
                due.about(n + " ONES, board " + board + ", LEAST " + least + ", hand " + hand);
                ask(n, board, least, hand);
            }
        }
    }

    private static boolean isHand(int n, int hand) {
        int taken = 0;
        for (int one = 0, rest = hand; one < n; one++, rest /= n + 1) {
            int to = rest % (n + 1) - 1;
            if (to == one || (to >= 0 && (taken >> to & 1) != 0)) {
                return false;
            }
            taken |= to < 0 ? 0 : 1 << to;
        }
        return true;
    }

    private static void ask(int n, int board, int least, int hand) {
        GiftLots lots = new GiftLots();
        Oracle oracle = new Oracle();
        due.is("ones", lots.ones(n), oracle.ones(n));
        due.is("least", lots.least(least), oracle.least(least));
        int pair = 0;
        for (int from = 0; from < n; from++) {
            for (int to = 0; to < n; to++) {
                if (from != to) {
                    boolean is = (board >> pair++ & 1) != 0;
                    due.is("may", lots.may(from, to, is), oracle.may(from, to, is));
                }
            }
        }
        for (int one = 0, rest = hand; one < n; one++, rest /= n + 1) {
            int to = rest % (n + 1) - 1;
            due.is("lay(" + one + ", " + to + ")", lots.lay(one, to), oracle.lay(one, to));
        }
        askWhole(lots, oracle);
        for (int one = -2; one <= n + 1; one++) {
            askOne(lots, oracle, one);
            for (int other = -2; other <= n + 1; other++) {
                askTwo(lots, oracle, one, other);
            }
        }
        askWays(lots, oracle, n);
        due.is("bar()", lots.bar(), oracle.bar());
        due.is("told(2)", lots.told(2), oracle.told(2));
        due.is("ways()", lots.ways(), oracle.ways());
    }

    private static void askWhole(GiftLots lots, Oracle oracle) {
        due.is("ways()", lots.ways(), oracle.ways());
        due.is("free()", lots.free(), oracle.free());
        due.is("heap()", lots.heap(), oracle.heap());
        due.is("rank()", lots.rank(), oracle.rank());
        for (int k = -1; k <= 9; k++) {
            due.is("rooks(" + k + ")", lots.rooks(k), oracle.rooks(k));
        }
        for (int n = -1; n <= 5; n++) {
            due.is("rounds(" + n + ")", lots.rounds(n), oracle.rounds(n));
            due.is("told(" + n + ")", lots.told(n), oracle.told(n));
        }
    }

    private static void askOne(GiftLots lots, Oracle oracle, int one) {
        due.is("laid(" + one + ")", lots.laid(one), oracle.laid(one));
        due.is("knows(" + one + ")", lots.knows(one), oracle.knows(one));
        due.is("changes(" + one + ")", lots.changes(one), oracle.changes(one));
        due.is("mends(" + one + ")", lots.mends(one), oracle.mends(one));
    }

    private static void askTwo(GiftLots lots, Oracle oracle, int one, int other) {
        due.is("both(" + one + ", " + other + ")", lots.both(one, other), oracle.both(one, other));
        due.is("share(" + one + ", " + other + ")", lots.share(one, other), oracle.share(one, other));
        due.is("sure(" + one + ", " + other + ")", lots.sure(one, other), oracle.sure(one, other));
        due.is("mend(" + one + ", " + other + ")", lots.mend(one, other), oracle.mend(one, other));
    }

    private static void askWays(GiftLots lots, Oracle oracle, int n) {
        int ways = oracle.ways();
        for (int k = -1; k <= ways; k++) {
            for (int one = -1; one <= n; one++) {
                due.is("way(" + k + ", " + one + ")", lots.way(k, one), oracle.way(k, one));
            }
        }
        for (int k = -1; k <= ways; k++) {
            due.is("draw(" + k + ")", lots.draw(k), oracle.draw(k));
            due.is("rank()", lots.rank(), oracle.rank());
        }
    }
}
