/** Each promise by hand-made runs: ordinary inputs, the edges that the document names, wrong inputs. */
public final class PromisesTest extends Given {
    /** The nine WAYS of four ONES on a free board. */
    private static final String[] WAYS_OF_FOUR =
            {"1032", "1230", "1302", "2031", "2301", "2310", "3012", "3201", "3210"};

    private static final Due due = new Due();

    public static void main(String[] args) {
        constants();
        promise1New();
        promise2Ones();
        promise3May();
        promise4Couple();
        promise5Bar();
        promise6Least();
        promise7Ways();
        promise8Free();
        promise9Way();
        promise10Rounds();
        promise11Both();
        promise12Rooks();
        promise13Heap();
        promise14Lay();
        promise15Laid();
        promise16Draw();
        promise17Rank();
        promise18Share();
        promise19Knows();
        promise20Sure();
        promise21Changes();
        promise22Mends();
        promise23Mend();
        promise24Told();
        longRun();
        due.end();
    }

    private static void handIs(GiftLots lots, String hand) {
        for (int one = 0; one < hand.length(); one++) {
            int want = hand.charAt(one) == '-' ? NONE : hand.charAt(one) - '0';
            due.is("laid(" + one + ")", lots.laid(one), want);
        }
    }

    private static void wayIs(GiftLots lots, int k, String way) {
        for (int one = 0; one < way.length(); one++) {
            due.is("way(" + k + ", " + one + ")", lots.way(k, one), way.charAt(one) - '0');
        }
    }

    private static void mendIs(GiftLots lots, int x, String mend) {
        for (int one = 0; one < mend.length(); one++) {
            int want = one == x ? UNKNOWN : mend.charAt(one) - '0';
            due.is("mend(" + x + ", " + one + ")", lots.mend(x, one), want);
        }
    }

    private static void toldIs(GiftLots lots, int ones, int least, int pairs, int givers) {
        due.is("told(0)", lots.told(0), ones);
        due.is("told(1)", lots.told(1), least);
        due.is("told(2)", lots.told(2), pairs);
        due.is("told(3)", lots.told(3), givers);
    }

    private static void constants() {
        due.about("constants");
        due.is("NONE", GiftLots.NONE, NONE);
        due.is("UNKNOWN", GiftLots.UNKNOWN, UNKNOWN);
        due.is("OUTSIDE", GiftLots.OUTSIDE, OUTSIDE);
        due.is("STATE", GiftLots.STATE, STATE);
        due.is("NO", GiftLots.NO, NO);
    }

    private static void promise1New() {
        due.about("promise 1");
        GiftLots lots = new GiftLots();
        toldIs(lots, 4, 2, 12, 0);
        handIs(lots, "----");
        due.is("ways()", lots.ways(), 9);
        for (int from = 0; from < 4; from++) {
            for (int to = 0; to < 4; to++) {
                if (from != to) {
                    due.is("may", lots.may(from, to, true), 1);
                }
            }
        }
        GiftLots other = new GiftLots();
        other.couple(0, 1);
        other.lay(2, 3);
        toldIs(lots, 4, 2, 12, 0);
    }

    private static void promise2Ones() {
        due.about("promise 2");
        GiftLots lots = new GiftLots();
        int were = 4;
        for (int n = 2; n <= 8; n++) {
            due.is("ones", lots.ones(n), were);
            toldIs(lots, n, 2, n * (n - 1), 0);
            were = n;
        }
        due.is("ones(3)", lots.ones(3), 8);
        due.is("laid(3)", lots.laid(3), UNKNOWN);

        lots = withHand("1032");
        lots.couple(0, 2);
        lots.least(3);
        for (int n : new int[] {1, 0, -1, 9, LOW, HIGH}) {
            due.is("ones(" + n + ")", lots.ones(n), OUTSIDE);
        }
        toldIs(lots, 4, 3, 10, 4);
        handIs(lots, "1032");
        due.is("ones(4) anew", lots.ones(4), 4);
        toldIs(lots, 4, 2, 12, 0);
        handIs(lots, "----");
        due.is("ways()", lots.ways(), 9);

        lots = withHand("10325476");
        lots.ones(2);
        lots.ones(8);
        handIs(lots, "--------");
        due.is("ways()", lots.ways(), 14833);
    }

    private static void promise3May() {
        due.about("promise 3");
        GiftLots lots = new GiftLots();
        due.is("may(0, 3, true)", lots.may(0, 3, true), 1);
        due.is("may(0, 3, false)", lots.may(0, 3, false), 1);
        due.is("may(0, 3, false)", lots.may(0, 3, false), 0);
        due.is("told(2)", lots.told(2), 11);
        due.is("may(3, 0, true)", lots.may(3, 0, true), 1);
        due.is("both(0, 3)", lots.both(0, 3), 0);
        due.is("may(0, 3, true)", lots.may(0, 3, true), 0);
        due.is("both(0, 3)", lots.both(0, 3), 3);
        for (int bad : new int[] {-1, 4, LOW, HIGH}) {
            due.is("may(bad, 0)", lots.may(bad, 0, false), UNKNOWN);
            due.is("may(0, bad)", lots.may(0, bad, false), UNKNOWN);
            due.is("may(bad, bad)", lots.may(bad, bad, false), UNKNOWN);
        }
        for (int one = 0; one < 4; one++) {
            due.is("may(one, one, true)", lots.may(one, one, true), NO);
            due.is("may(one, one, false)", lots.may(one, one, false), NO);
        }
        due.is("told(2)", lots.told(2), 12);
        due.is("ways()", lots.ways(), 9);
    }

    private static void promise4Couple() {
        due.about("promise 4");
        GiftLots lots = new GiftLots();
        due.is("couple(0, 1)", lots.couple(0, 1), 2);
        due.is("couple(0, 1)", lots.couple(0, 1), 0);
        due.is("couple(1, 0)", lots.couple(1, 0), 0);
        lots.may(3, 2, false);
        due.is("couple(2, 3)", lots.couple(2, 3), 1);
        lots.may(1, 0, true);
        due.is("couple(0, 1)", lots.couple(0, 1), 1);
        due.is("may(0, 1)", lots.may(0, 1, false), 0);
        due.is("may(1, 0)", lots.may(1, 0, false), 0);
        due.is("told(2)", lots.told(2), 8);
        for (int bad : new int[] {-1, 4, LOW, HIGH}) {
            due.is("couple(bad, 0)", lots.couple(bad, 0), UNKNOWN);
            due.is("couple(0, bad)", lots.couple(0, bad), UNKNOWN);
            due.is("couple(bad, bad)", lots.couple(bad, bad), UNKNOWN);
        }
        due.is("couple(2, 2)", lots.couple(2, 2), NO);
        due.is("told(2)", lots.told(2), 8);
    }

    private static void promise5Bar() {
        due.about("promise 5");
        GiftLots lots = new GiftLots();
        due.is("bar()", lots.bar(), 0);
        layAll(lots, "1-3-");
        due.is("bar()", lots.bar(), 2);
        handIs(lots, "1-3-");
        due.is("told(2)", lots.told(2), 10);
        due.is("may(0, 1)", lots.may(0, 1, false), 0);
        due.is("may(1, 0)", lots.may(1, 0, true), 1);
        due.is("may(2, 3)", lots.may(2, 3, false), 0);
        due.is("bar()", lots.bar(), 0);
        lots.lay(1, 0);
        due.is("bar()", lots.bar(), 1);

        lots = of(8);
        lots.draw(7000);
        due.is("bar()", lots.bar(), 8);
        due.is("rank()", lots.rank(), NO);
        due.is("told(2)", lots.told(2), 48);
        due.is("rooks(1)", lots.rooks(1), 16);
    }

    private static void promise6Least() {
        due.about("promise 6");
        GiftLots lots = new GiftLots();
        due.is("least(8)", lots.least(8), 2);
        due.is("ways()", lots.ways(), 0);
        due.is("least(2)", lots.least(2), 8);
        due.is("ways()", lots.ways(), 9);
        due.is("least(3)", lots.least(3), 2);
        due.is("ways()", lots.ways(), 6);
        due.is("least(4)", lots.least(4), 3);
        due.is("ways()", lots.ways(), 6);
        due.is("least(5)", lots.least(5), 4);
        due.is("ways()", lots.ways(), 0);
        for (int bad : new int[] {1, 0, -1, 9, LOW, HIGH}) {
            due.is("least(bad)", lots.least(bad), OUTSIDE);
        }
        toldIs(lots, 4, 5, 12, 0);
    }

    private static void promise7Ways() {
        due.about("promise 7");
        GiftLots lots = new GiftLots();
        for (int n = 2; n <= 8; n++) {
            lots.ones(n);
            due.is("ways() of " + n, lots.ways(), FREE_WAYS[n]);
        }
        // Of eight: splits into ROUNDS of 8; 4 and 4, 3 and 5; 2 and 6 and more with a two.
        int[] byLeast = {14833, 5040 + 1260 + 2688, 5040 + 1260, 5040, 5040, 5040, 5040};
        for (int least = 2; least <= 8; least++) {
            lots.least(least);
            due.is("ways() of 8 by " + least, lots.ways(), byLeast[least - 2]);
        }
        lots = of(6);
        lots.least(3);
        due.is("ways()", lots.ways(), 160);
        lots = new GiftLots();
        lots.couple(0, 1);
        due.is("ways()", lots.ways(), 4);
        lots.least(3);
        due.is("ways()", lots.ways(), 2);
        only(lots, 2, "");
        due.is("ways()", lots.ways(), 0);
        layAll(lots, "1032");
        due.is("ways()", lots.ways(), 0);
    }

    private static void promise8Free() {
        due.about("promise 8");
        GiftLots lots = new GiftLots();
        for (int n = 2; n <= 8; n++) {
            lots.ones(n);
            for (int least = 2; least <= 8; least += 3) {
                lots.least(least);
                due.is("free() of " + n, lots.free(), FREE_WAYS[n]);
            }
        }
        lots = new GiftLots();
        lots.least(4);
        lots.couple(0, 1);
        due.is("free()", lots.free(), 4);
        due.is("ways()", lots.ways(), 2);
        only(lots, 3, "");
        due.is("free()", lots.free(), 0);
    }

    private static void promise9Way() {
        due.about("promise 9");
        GiftLots lots = new GiftLots();
        for (int k = 0; k < 9; k++) {
            wayIs(lots, k, WAYS_OF_FOUR[k]);
        }
        for (int bad : new int[] {-1, 9, 10, LOW, HIGH}) {
            due.is("way(bad, 0)", lots.way(bad, 0), NO);
            due.is("way(bad, 4)", lots.way(bad, 4), UNKNOWN);
            due.is("way(0, bad)", lots.way(0, bad == 9 ? 4 : bad), UNKNOWN);
        }
        lots.least(3);
        String[] long4 = {"1230", "1302", "2031", "2310", "3012", "3201"};
        for (int k = 0; k < 6; k++) {
            wayIs(lots, k, long4[k]);
        }
        due.is("way(6, 0)", lots.way(6, 0), NO);
        lots.couple(0, 1);
        wayIs(lots, 0, "2310");
        wayIs(lots, 1, "3201");
        due.is("way(2, 0)", lots.way(2, 0), NO);
        handIs(lots, "----");
        lots = of(8);
        wayIs(lots, 0, "10325476");
        wayIs(lots, 14832, "76543210");
        due.is("way(14833, 0)", lots.way(14833, 0), NO);
        lots.least(5);
        due.is("way(5040, 0)", lots.way(5040, 0), NO);
        wayIs(lots, 0, "12345670");
    }

    private static void promise10Rounds() {
        due.about("promise 10");
        GiftLots lots = of(8);
        int[] ofEight = {0, 5040, 7308, 2380, 105, 0, 0, 0, 0, 0};
        for (int n = 0; n < ofEight.length; n++) {
            due.is("rounds(" + n + ")", lots.rounds(n), ofEight[n]);
        }
        due.is("rounds(low)", lots.rounds(LOW), 0);
        due.is("rounds(-1)", lots.rounds(-1), 0);
        due.is("rounds(high)", lots.rounds(HIGH), 0);
        lots.least(3);
        due.is("rounds(1)", lots.rounds(1), 5040);
        due.is("rounds(2)", lots.rounds(2), 3948);
        due.is("rounds(3)", lots.rounds(3), 0);
        lots = new GiftLots();
        due.is("rounds(1)", lots.rounds(1), 6);
        due.is("rounds(2)", lots.rounds(2), 3);
        lots.couple(0, 1);
        due.is("rounds(1)", lots.rounds(1), 2);
        due.is("rounds(2)", lots.rounds(2), 2);
        lots.least(5);
        due.is("rounds(1)", lots.rounds(1), 0);
    }

    private static void promise11Both() {
        due.about("promise 11");
        GiftLots lots = new GiftLots();
        for (int from = 0; from < 4; from++) {
            for (int to = 0; to < 4; to++) {
                due.is("both", lots.both(from, to), from == to ? 0 : 3);
            }
        }
        lots.least(3);
        due.is("both(2, 1)", lots.both(2, 1), 2);
        lots.couple(0, 1);
        due.is("both(0, 1)", lots.both(0, 1), 0);
        due.is("both(0, 2)", lots.both(0, 2), 1);
        due.is("both(2, 3)", lots.both(2, 3), 0);
        for (int bad : new int[] {-1, 4, LOW, HIGH}) {
            due.is("both(bad, 0)", lots.both(bad, 0), UNKNOWN);
            due.is("both(0, bad)", lots.both(0, bad), UNKNOWN);
            due.is("both(bad, bad)", lots.both(bad, bad), UNKNOWN);
        }
        due.is("both(6, 1)", of(8).both(6, 1), 2119);
    }

    private static void promise12Rooks() {
        due.about("promise 12");
        GiftLots lots = new GiftLots();
        int[] free4 = {1, 4, 6, 4, 1, 0, 0, 0, 0};
        for (int k = 0; k <= 8; k++) {
            due.is("rooks(" + k + ")", lots.rooks(k), free4[k]);
        }
        lots.least(4);
        lots.may(0, 1, false);
        int[] one4 = {1, 5, 8, 5, 1, 0, 0, 0, 0};
        for (int k = 0; k <= 8; k++) {
            due.is("rooks(" + k + ")", lots.rooks(k), one4[k]);
        }
        lots = of(8);
        for (int from = 0; from < 8; from++) {
            only(lots, from, "");
        }
        int[] full8 = {1, 64, 1568, 18816, 117600, 376320, 564480, 322560, 40320};
        for (int k = 0; k <= 8; k++) {
            due.is("rooks(" + k + ")", lots.rooks(k), full8[k]);
        }
        for (int bad : new int[] {-1, 9, LOW, HIGH}) {
            due.is("rooks(bad)", lots.rooks(bad), OUTSIDE);
        }
    }

    private static void promise13Heap() {
        due.about("promise 13");
        GiftLots lots = of(6);
        due.is("heap()", lots.heap(), 0);
        only(lots, 1, "5");
        only(lots, 2, "5");
        due.is("heap()", lots.heap(), 6);
        only(lots, 0, "4");
        only(lots, 3, "4");
        // ONES 0 and 3 go before 1 and 2, though their bits are the greater number.
        due.is("heap()", lots.heap(), 9);
        due.is("ways()", lots.ways(), 0);
        only(lots, 5, "");
        due.is("heap()", lots.heap(), 32);
        only(lots, 4, "");
        due.is("heap()", lots.heap(), 16);

        // Nobody gives to 2: only all three together are too many.
        lots = of(3);
        lots.may(0, 2, false);
        due.is("heap()", lots.heap(), 0);
        lots.may(1, 2, false);
        due.is("heap()", lots.heap(), 7);

        lots = of(8);
        only(lots, 7, "01");
        only(lots, 6, "01");
        only(lots, 5, "01");
        due.is("heap()", lots.heap(), 0xE0);
        lots.may(5, 2, true);
        due.is("heap()", lots.heap(), 0);
        lots.least(8);
        lots.ones(2);
        lots.least(8);
        due.is("heap()", lots.heap(), 0);
        due.is("ways()", lots.ways(), 0);
        lots.couple(0, 1);
        due.is("heap()", lots.heap(), 1);
        lots.may(0, 1, true);
        due.is("heap()", lots.heap(), 2);
    }

    private static void promise14Lay() {
        due.about("promise 14");
        GiftLots lots = new GiftLots();
        due.is("lay(0, -1)", lots.lay(0, -1), NONE);
        due.is("lay(0, 1)", lots.lay(0, 1), NONE);
        due.is("lay(0, 1)", lots.lay(0, 1), 1);
        due.is("lay(0, 3)", lots.lay(0, 3), 1);
        due.is("lay(1, 3)", lots.lay(1, 3), STATE);
        handIs(lots, "3---");
        due.is("lay(2, 1)", lots.lay(2, 1), NONE);
        due.is("lay(0, 1)", lots.lay(0, 1), STATE);
        handIs(lots, "3-1-");
        due.is("lay(3, 3)", lots.lay(3, 3), UNKNOWN);
        due.is("lay(0, -1)", lots.lay(0, -1), 3);
        due.is("lay(0, -1)", lots.lay(0, -1), NONE);
        due.is("lay(1, 3)", lots.lay(1, 3), NONE);
        for (int bad : new int[] {-2, 4, NONE, LOW, HIGH}) {
            due.is("lay(bad, 0)", lots.lay(bad, 0), UNKNOWN);
            due.is("lay(0, bad)", lots.lay(0, bad), UNKNOWN);
        }
        due.is("lay(-1, -1)", lots.lay(-1, -1), UNKNOWN);
        due.is("lay(-1, 0)", lots.lay(-1, 0), UNKNOWN);
        due.is("lay(4, 3)", lots.lay(4, 3), UNKNOWN);
        handIs(lots, "-31-");
        lots.couple(3, 0);
        due.is("lay(3, 0), barred", lots.lay(3, 0), NONE);
        handIs(lots, "-310");
        toldIs(lots, 4, 2, 10, 3);
    }

    private static void promise15Laid() {
        due.about("promise 15");
        GiftLots lots = withHand("3-0-");
        handIs(lots, "3-0-");
        for (int bad : new int[] {-1, 4, 7, 8, LOW, HIGH}) {
            due.is("laid(bad)", lots.laid(bad), UNKNOWN);
        }
        lots.lay(0, -1);
        handIs(lots, "--0-");
    }

    private static void promise16Draw() {
        due.about("promise 16");
        GiftLots lots = new GiftLots();
        for (int k = 8; k >= 0; k--) {
            due.is("draw(" + k + ")", lots.draw(k), 1);
            handIs(lots, WAYS_OF_FOUR[k]);
        }
        for (int bad : new int[] {-1, 9, LOW, HIGH}) {
            due.is("draw(bad)", lots.draw(bad), NO);
        }
        handIs(lots, WAYS_OF_FOUR[0]);
        lots.least(4);
        due.is("draw(5)", lots.draw(5), 1);
        handIs(lots, "3201");
        due.is("draw(6)", lots.draw(6), NO);
        only(lots, 0, "");
        due.is("draw(0)", lots.draw(0), NO);
        handIs(lots, "3201");
    }

    private static void promise17Rank() {
        due.about("promise 17");
        GiftLots lots = new GiftLots();
        due.is("rank()", lots.rank(), STATE);
        for (int k = 0; k < 9; k++) {
            layAll(lots, WAYS_OF_FOUR[k]);
            due.is("rank() of " + WAYS_OF_FOUR[k], lots.rank(), k);
        }
        lots.least(3);
        due.is("rank(), too short", lots.rank(), NO);
        layAll(lots, "3201");
        due.is("rank()", lots.rank(), 5);
        lots.couple(0, 1);
        due.is("rank()", lots.rank(), 1);
        lots.may(3, 1, false);
        due.is("rank(), barred", lots.rank(), NO);
        lots.lay(2, -1);
        due.is("rank(), barred, one none", lots.rank(), STATE);
        lots = of(8);
        for (int k = 0; k < 14833; k += 1201) {
            lots.draw(k);
            due.is("rank()", lots.rank(), k);
        }
    }

    private static void promise18Share() {
        due.about("promise 18");
        GiftLots lots = withHand("2031");
        int[][] shares = {{0, 3, 3, 3}, {1, 0, 0, 2}, {0, 0, 0, 1}, {0, 1, 0, 0}};
        for (int i = 0; i < 4; i++) {
            for (int j = 0; j < 4; j++) {
                due.is("share(" + i + ", " + j + ")", lots.share(i, j), shares[i][j]);
            }
        }
        lots.lay(3, -1);
        due.is("share(3, 1)", lots.share(3, 1), 1);
        lots.lay(1, -1);
        due.is("share(1, 3)", lots.share(1, 3), 2);
        due.is("share(2, 3)", lots.share(2, 3), STATE);
        due.is("share(3, 1)", lots.share(3, 1), STATE);
        for (int bad : new int[] {-1, 4, LOW, HIGH}) {
            due.is("share(bad, 0)", lots.share(bad, 0), UNKNOWN);
            due.is("share(3, bad)", lots.share(3, bad), UNKNOWN);
        }
        lots.least(3);
        due.is("share(1, 0)", lots.share(1, 0), 1);
        due.is("share(1, 3)", lots.share(1, 3), 1);
        lots.may(0, 2, false);
        due.is("share(1, 3), barred", lots.share(1, 3), 0);
        due.is("share(0, 1)", lots.share(0, 1), 2);
        lots.lay(0, -1);
        due.is("share(0, 3)", lots.share(0, 3), 2);
    }

    private static void promise19Knows() {
        due.about("promise 19");
        GiftLots lots = withHand("1-3-");
        due.is("knows(0)", lots.knows(0), 3);
        due.is("knows(1)", lots.knows(1), STATE);
        due.is("knows(2)", lots.knows(2), 3);
        lots.least(3);
        due.is("knows(0)", lots.knows(0), 2);
        lots.may(0, 1, false);
        due.is("knows(0)", lots.knows(0), 0);
        due.is("knows(2)", lots.knows(2), 1);
        for (int bad : new int[] {-1, 4, LOW, HIGH}) {
            due.is("knows(bad)", lots.knows(bad), UNKNOWN);
        }
        lots = of(8);
        lots.lay(7, 0);
        due.is("knows(7)", lots.knows(7), 2119);
    }

    private static void promise20Sure() {
        due.about("promise 20");
        GiftLots lots = withHand("1--");
        for (int other = 0; other < 3; other++) {
            due.is("sure(0, " + other + ")", lots.sure(0, other), 1);
            due.is("sure(1, " + other + ")", lots.sure(1, other), STATE);
        }
        // What others give in THE HAND plays no part.
        lots.lay(2, 0);
        lots.lay(1, 2);
        due.is("sure(0, 1)", lots.sure(0, 1), 1);
        lots.lay(2, -1);
        lots.lay(1, 0);
        due.is("sure(0, 1)", lots.sure(0, 1), 1);
        due.is("sure(1, 2)", lots.sure(1, 2), 1);

        lots = withHand("1032");
        due.is("sure(0, 0)", lots.sure(0, 0), 1);
        for (int other = 1; other < 4; other++) {
            due.is("sure(0, other)", lots.sure(0, other), 0);
        }
        only(lots, 3, "02");
        only(lots, 2, "03");
        // Left with 0 to 1: 1032, 1230 and 1302; all with another getter of 1.
        due.is("knows(0)", lots.knows(0), 3);
        due.is("sure(0, 1)", lots.sure(0, 1), 0);
        only(lots, 1, "0");
        due.is("sure(0, 1)", lots.sure(0, 1), 1);
        due.is("sure(0, 3)", lots.sure(0, 3), 1);
        lots.may(0, 1, false);
        due.is("sure(0, 0)", lots.sure(0, 0), NO);
        due.is("sure(0, 1)", lots.sure(0, 1), NO);
        lots.lay(0, -1);
        due.is("sure(0, 0)", lots.sure(0, 0), STATE);
        // By LEAST 3 only 12340 is left, though 1 could give to 0 in two ways else.
        lots = withHand("1----");
        only(lots, 1, "02");
        lots.may(3, 0, false);
        due.is("sure(0, 1)", lots.sure(0, 1), 0);
        lots.least(3);
        due.is("knows(0)", lots.knows(0), 1);
        due.is("sure(0, 1)", lots.sure(0, 1), 1);
        for (int bad : new int[] {-1, 5, LOW, HIGH}) {
            due.is("sure(bad, 0)", lots.sure(bad, 0), UNKNOWN);
            due.is("sure(0, bad)", lots.sure(0, bad), UNKNOWN);
        }
    }

    /** The refusals that changes, mends and mend share. */
    private static void refusesFall(GiftLots lots, int want) {
        due.is("changes(0)", lots.changes(0), want);
        due.is("mends(0)", lots.mends(0), want);
        due.is("mend(0, 1)", lots.mend(0, 1), want);
        due.is("changes(4)", lots.changes(4), UNKNOWN);
        due.is("mends(4)", lots.mends(4), UNKNOWN);
        due.is("mend(4, 0)", lots.mend(4, 0), UNKNOWN);
        due.is("mend(0, 4)", lots.mend(0, 4), UNKNOWN);
        due.is("mend(1, 1)", lots.mend(1, 1), UNKNOWN);
    }

    private static void refusedFalls() {
        GiftLots lots = new GiftLots();
        refusesFall(lots, STATE);
        layAll(lots, "103-");
        lots.may(0, 1, false);
        refusesFall(lots, STATE);
        lots.lay(3, 2);
        refusesFall(lots, NO);
        lots.may(0, 1, true);
        lots.least(3);
        refusesFall(lots, NO);
        for (int bad : new int[] {-1, LOW, HIGH}) {
            due.is("changes(bad)", lots.changes(bad), UNKNOWN);
            due.is("mends(bad)", lots.mends(bad), UNKNOWN);
            due.is("mend(bad, 0)", lots.mend(bad, 0), UNKNOWN);
            due.is("mend(0, bad)", lots.mend(0, bad), UNKNOWN);
        }
        handIs(lots, "1032");
    }

    private static void promise21Changes() {
        due.about("promise 21");
        refusedFalls();
        GiftLots lots = withHand("1032");
        due.is("changes(0)", lots.changes(0), 2);
        layAll(lots, "1230");
        due.is("changes(0)", lots.changes(0), 1);
        lots.may(3, 1, false);
        due.is("changes(0), barred", lots.changes(0), 3);
        handIs(lots, "1230");
        due.is("rank()", lots.rank(), 1);
        lots.may(3, 2, false);
        due.is("changes(0), both barred", lots.changes(0), NONE);
        due.is("changes(2)", lots.changes(2), 1);
        lots.may(3, 2, true);
        lots.may(3, 1, true);
        lots.least(3);
        due.is("changes(3)", lots.changes(3), 1);
        lots.least(4);
        due.is("changes(3)", lots.changes(3), NONE);
        lots = withHand("10");
        due.is("changes(0)", lots.changes(0), NONE);
        due.is("changes(1)", lots.changes(1), NONE);
        // A ROUND of two broken by the fall: its other ONE must enter another ROUND.
        due.is("changes(7)", withHand("10325476").changes(7), 2);
        // LEAST 4: seven in all, so that only a ROUND of seven is left.
        lots = withHand("12305674");
        lots.least(4);
        due.is("changes(7)", lots.changes(7), 2);
    }

    private static void promise22Mends() {
        due.about("promise 22");
        refusedFalls();
        GiftLots lots = withHand("1032");
        due.is("mends(0)", lots.mends(0), 2);
        lots.may(1, 3, false);
        due.is("mends(0)", lots.mends(0), 1);
        lots.may(1, 2, false);
        due.is("mends(0)", lots.mends(0), 0);
        due.is("mends(1)", lots.mends(1), 2);
        lots = withHand("1230");
        due.is("mends(0)", lots.mends(0), 1);
        lots.least(4);
        due.is("mends(0)", lots.mends(0), 0);
        due.is("mends(1) of two", withHand("10").mends(1), 0);
        // ONE 6 enters between any giver and its getter.
        due.is("mends(7)", withHand("10325476").mends(7), 6);
    }

    private static void promise23Mend() {
        due.about("promise 23");
        refusedFalls();
        GiftLots lots = withHand("1032");
        mendIs(lots, 0, "-231");
        mendIs(lots, 1, "2-30");
        mendIs(lots, 2, "13-0");
        mendIs(lots, 3, "120-");
        lots.may(1, 2, false);
        mendIs(lots, 0, "-312");
        lots.may(1, 3, false);
        mendIs(lots, 1, "2-30");
        due.is("mend(0, 1)", lots.mend(0, 1), NONE);
        due.is("mend(0, 0)", lots.mend(0, 0), UNKNOWN);
        due.is("mend(0, 3)", lots.mend(0, 3), NONE);
        handIs(lots, "1032");
        due.is("mend(0, 1) of two", withHand("10").mend(0, 1), NONE);
        // The first in order, as WAYS are: 0 gives to 1 in all but one, so 1 enters first.
        mendIs(withHand("10325476"), 7, "1032564-");
        mendIs(withHand("10325476"), 0, "-2315476");
    }

    private static void promise24Told() {
        due.about("promise 24");
        GiftLots lots = of(5);
        toldIs(lots, 5, 2, 20, 0);
        lots.least(7);
        lots.couple(0, 4);
        lots.may(1, 0, false);
        lots.lay(0, 4);
        lots.lay(3, 1);
        toldIs(lots, 5, 7, 17, 2);
        lots.lay(3, -1);
        toldIs(lots, 5, 7, 17, 1);
        for (int bad : new int[] {-1, 4, 5, LOW, HIGH}) {
            due.is("told(bad)", lots.told(bad), OUTSIDE);
        }
    }

    /** Answers after 500 of the dearest calls are still those of the first. */
    private static void longRun() {
        due.about("a long run");
        GiftLots lots = of(8);
        lots.draw(14832);
        for (int call = 0; call < 500; call++) {
            due.is("way(14832, 7)", lots.way(14832, 7), 0);
        }
        due.is("rank()", lots.rank(), 14832);
    }
}
