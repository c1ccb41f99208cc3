import java.util.Random;

/** Runs of calls, the same each time, compared with the oracle call by call. */
public final class RandomRunsTest {
    private static final int RUNS = 400;
    /** With up to 65 calls ahead that make the board, 512 of one object in all. */
    private static final int CALLS = 512 - 65;

    private static final Due due = new Due();
    private static Random random;
    private static GiftLots lots;
    private static Oracle oracle;

    public static void main(String[] args) {
        for (int run = 0; run < RUNS && !due.hasWrong(); run++) {
            random = new Random(run);
            lots = new GiftLots();
            oracle = new Oracle();
            due.about("run " + run);
            begin(run);
            for (int call = 0; call < CALLS && !due.hasWrong(); call++) {
                one();
            }
        }
        due.end();
    }

    /** Boards from free to nearly empty, so that few ways, none, and heaps are met often. */
    private static void begin(int run) {
        int n = 2 + run % 7;
        due.is("ones(" + n + ")", lots.ones(n), oracle.ones(n));
        int barred = random.nextInt(8);
        for (int from = 0; from < n; from++) {
            for (int to = 0; to < n; to++) {
                if (random.nextInt(10) < barred) {
                    due.is("may", lots.may(from, to, false), oracle.may(from, to, false));
                }
            }
        }
    }

    /** Mostly a ONE that there is, sometimes one just outside, seldom one far outside. */
    private static int any() {
        int n = oracle.told(0);
        switch (random.nextInt(24)) {
            case 0:
                return -1;
            case 1:
                return n;
            case 2:
                return random.nextInt();
            default:
                return random.nextInt(n);
        }
    }

    /** Mostly the number of a way that there is, sometimes one just outside. */
    private static int number() {
        int ways = oracle.ways();
        return random.nextInt(12) == 0 || ways == 0
                ? ways - 1 + random.nextInt(4) : random.nextInt(16) == 0 ? -1 : random.nextInt(ways);
    }

    private static void one() {
        int kind = random.nextInt(60);
        if (kind < 12) {
            changeBoard(kind);
        } else if (kind < 24) {
            changeHand(kind);
        } else if (kind < 40) {
            askWays(kind);
        } else {
            askHand(kind);
        }
    }

    private static void changeBoard(int kind) {
        int a = any();
        int b = any();
        boolean is = random.nextInt(3) != 0;
        switch (kind) {
            case 0:
                int ones = random.nextInt(6) == 0 ? random.nextInt(12) - 1 : oracle.told(0);
                if (random.nextInt(6) == 0) {
                    due.is("ones(" + ones + ")", lots.ones(ones), oracle.ones(ones));
                }
                break;
            case 1:
                due.is("couple(" + a + ", " + b + ")", lots.couple(a, b), oracle.couple(a, b));
                break;
            case 2:
                if (random.nextInt(3) == 0) {
                    due.is("bar()", lots.bar(), oracle.bar());
                }
                break;
            case 3:
                int least = random.nextInt(3) == 0 ? random.nextInt(11) : 2 + random.nextInt(3);
                due.is("least(" + least + ")", lots.least(least), oracle.least(least));
                break;
            default:
                due.is("may(" + a + ", " + b + ", " + is + ")", lots.may(a, b, is), oracle.may(a, b, is));
        }
    }

    private static void changeHand(int kind) {
        int a = any();
        int b = random.nextInt(6) == 0 ? -1 : any();
        int k = number();
        if (kind < 18) {
            due.is("draw(" + k + ")", lots.draw(k), oracle.draw(k));
        } else {
            due.is("lay(" + a + ", " + b + ")", lots.lay(a, b), oracle.lay(a, b));
        }
    }

    private static void askWays(int kind) {
        int a = any();
        int b = any();
        int k = number();
        int small = random.nextInt(11) - 1;
        switch (kind) {
            case 24:
            case 25:
                due.is("ways()", lots.ways(), oracle.ways());
                break;
            case 26:
                due.is("free()", lots.free(), oracle.free());
                break;
            case 27:
            case 28:
                due.is("rounds(" + small + ")", lots.rounds(small), oracle.rounds(small));
                break;
            case 29:
            case 30:
                due.is("both(" + a + ", " + b + ")", lots.both(a, b), oracle.both(a, b));
                break;
            case 31:
            case 32:
                due.is("rooks(" + small + ")", lots.rooks(small), oracle.rooks(small));
                break;
            case 33:
            case 34:
                due.is("heap()", lots.heap(), oracle.heap());
                break;
            case 35:
                due.is("told(" + small + ")", lots.told(small), oracle.told(small));
                break;
            default:
                due.is("way(" + k + ", " + a + ")", lots.way(k, a), oracle.way(k, a));
        }
    }

    private static void askHand(int kind) {
        int a = any();
        int b = any();
        switch (kind % 10) {
            case 0:
                due.is("laid(" + a + ")", lots.laid(a), oracle.laid(a));
                break;
            case 1:
                due.is("rank()", lots.rank(), oracle.rank());
                break;
            case 2:
            case 3:
                due.is("share(" + a + ", " + b + ")", lots.share(a, b), oracle.share(a, b));
                break;
            case 4:
                due.is("knows(" + a + ")", lots.knows(a), oracle.knows(a));
                break;
            case 5:
            case 6:
                due.is("sure(" + a + ", " + b + ")", lots.sure(a, b), oracle.sure(a, b));
                break;
            case 7:
                due.is("changes(" + a + ")", lots.changes(a), oracle.changes(a));
                break;
            case 8:
                due.is("mends(" + a + ")", lots.mends(a), oracle.mends(a));
                break;
            default:
                due.is("mend(" + a + ", " + b + ")", lots.mend(a, b), oracle.mend(a, b));
        }
    }
}
