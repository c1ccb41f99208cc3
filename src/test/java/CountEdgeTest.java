/** The boundary cases of promises 7 to 13: the WAYS and FREE WAYS, their numbers and ROUNDS, ROOKS and THE HEAP. */
public final class CountEdgeTest extends Given {
    /** Nobody may give to anybody. */
    private static final String[] NOBODY = {"", "", "", ""};
    /** Just one WAY, a ROUND of four. */
    private static final String[] ONE_ROUND = {"1", "2", "3", "0"};

    public static void main(String[] args) throws IllegalAccessException {
        Cases.run(CountEdgeTest.class);
    }

    private static GiftLots nobody(int n) {
        GiftLots lots = of(n);
        for (int from = 0; from < n; from++) {
            only(lots, from, "");
        }
        return lots;
    }

    // ---- promise 7: ways

    static void promise7FewestOnes(Due due) {
        due.is("ways() of 2", of(2).ways(), 1);
        due.is("ways() of 3", of(3).ways(), 2);
    }

    static void promise7MostOnes(Due due) {
        due.is("ways() of 8", of(8).ways(), 14833);
    }

    static void promise7None(Due due) {
        for (int n = 2; n <= 8; n++) {
            due.is("ways() of " + n + ", all barred", nobody(n).ways(), 0);
        }
    }

    static void promise7OneGivesToNobody(Due due) {
        for (int one = 0; one < 5; one++) {
            GiftLots lots = of(5);
            only(lots, one, "");
            due.is("ways() without a getter for " + one, lots.ways(), 0);
        }
    }

    static void promise7OneGetsFromNobody(Due due) {
        for (int one = 0; one < 5; one++) {
            GiftLots lots = of(5);
            for (int from = 0; from < 5; from++) {
                lots.may(from, one, false);
            }
            due.is("ways() without a giver for " + one, lots.ways(), 0);
        }
    }

    static void promise7JustOne(Due due) {
        due.is("ways()", withBoard(ONE_ROUND).ways(), 1);
        due.is("ways()", withBoard("7", "6", "5", "4", "3", "2", "1", "0").ways(), 1);
    }

    static void promise7LeastIsAsManyAsThereAreOnes(Due due) {
        int rounds = 1;
        for (int n = 2; n <= 8; n++) {
            GiftLots lots = of(n);
            lots.least(n);
            due.is("ways() of " + n + " by LEAST " + n, lots.ways(), rounds);
            rounds *= n;
        }
    }

    static void promise7LeastIsOneMoreThanThereAreOnes(Due due) {
        for (int n = 2; n <= 7; n++) {
            GiftLots lots = of(n);
            lots.least(n + 1);
            due.is("ways() of " + n + " by LEAST " + (n + 1), lots.ways(), 0);
        }
    }

    static void promise7LeastIsHalf(Due due) {
        GiftLots lots = of(6);
        lots.least(3);
        due.is("ways() of 6 by LEAST 3", lots.ways(), 160);
        lots.least(4);
        due.is("ways() of 6 by LEAST 4", lots.ways(), 120);
        lots = of(8);
        lots.least(4);
        due.is("ways() of 8 by LEAST 4", lots.ways(), 6300);
        lots.least(5);
        due.is("ways() of 8 by LEAST 5", lots.ways(), 5040);
        lots = of(7);
        lots.least(3);
        due.is("ways() of 7 by LEAST 3", lots.ways(), 1140);
        lots.least(4);
        due.is("ways() of 7 by LEAST 4", lots.ways(), 720);
    }

    static void promise7HandPlaysNoPart(Due due) {
        GiftLots lots = withHand("1032");
        due.is("ways()", lots.ways(), 9);
        layAll(lots, "1-3-");
        due.is("ways()", lots.ways(), 9);
    }

    // ---- promise 8: free

    static void promise8FewestAndMostOnes(Due due) {
        due.is("free() of 2", of(2).free(), 1);
        due.is("free() of 8", of(8).free(), 14833);
    }

    static void promise8None(Due due) {
        for (int n = 2; n <= 8; n++) {
            due.is("free() of " + n + ", all barred", nobody(n).free(), 0);
        }
    }

    static void promise8JustOne(Due due) {
        due.is("free()", withBoard(ONE_ROUND).free(), 1);
    }

    static void promise8WhateverLeast(Due due) {
        for (int n = 2; n <= 8; n++) {
            for (int least = 2; least <= 8; least++) {
                GiftLots lots = of(n);
                lots.least(least);
                due.is("free() of " + n + " by LEAST " + least, lots.free(), FREE_WAYS[n]);
            }
        }
    }

    static void promise8ShortRoundsCount(Due due) {
        GiftLots lots = withBoard("1", "0", "3", "2");
        lots.least(3);
        due.is("free()", lots.free(), 1);
        due.is("ways()", lots.ways(), 0);
    }

    static void promise8FreeAsksNotForLeastLater(Due due) {
        GiftLots lots = new GiftLots();
        lots.least(3);
        lots.free();
        due.is("ways() after free()", lots.ways(), 6);
        due.is("told(1)", lots.told(1), 3);
    }

    static void promise8HandPlaysNoPart(Due due) {
        due.is("free()", withHand("1032").free(), 9);
    }

    // ---- promise 9: way

    static void promise9FirstWay(Due due) {
        due.is("way 0 of 2", way(of(2), 0), "10");
        due.is("way 0 of 3", way(of(3), 0), "120");
        due.is("way 0 of 8", way(of(8), 0), "10325476");
    }

    static void promise9LastWay(Due due) {
        due.is("way 1 of 3", way(of(3), 1), "201");
        due.is("way 8 of 4", way(of(4), 8), "3210");
        due.is("way 14832 of 8", way(of(8), 14832), "76543210");
    }

    static void promise9OneBeyondTheLastWay(Due due) {
        for (int n = 2; n <= 8; n++) {
            due.is("way of " + n, of(n).way(FREE_WAYS[n], 0), NO);
            due.is("way of " + n, of(n).way(FREE_WAYS[n], n - 1), NO);
            due.holds("the last way of " + n, of(n).way(FREE_WAYS[n] - 1, 0) == n - 1);
        }
    }

    static void promise9BelowZero(Due due) {
        due.is("way(-1, 0)", new GiftLots().way(-1, 0), NO);
        due.is("way(-1, 3)", new GiftLots().way(-1, 3), NO);
        due.is("way(-9, 0)", new GiftLots().way(-9, 0), NO);
    }

    static void promise9FarNumbers(Due due) {
        for (int k : new int[] {LOW, LOW + 1, -256, -65536, 256, 65536, HIGH - 1, HIGH}) {
            due.is("way(" + k + ", 0)", new GiftLots().way(k, 0), NO);
        }
    }

    static void promise9NoWays(Due due) {
        due.is("way(0, 0), all barred", withBoard(NOBODY).way(0, 0), NO);
        GiftLots lots = new GiftLots();
        lots.least(5);
        due.is("way(0, 0) by LEAST 5", lots.way(0, 0), NO);
    }

    static void promise9JustOneWay(Due due) {
        due.is("way 0", way(withBoard(ONE_ROUND), 0), "1230");
        due.is("way(1, 0)", withBoard(ONE_ROUND).way(1, 0), NO);
    }

    static void promise9LastByLeast(Due due) {
        GiftLots lots = new GiftLots();
        lots.least(4);
        due.is("the ways", ways(lots), "1230 1302 2031 2310 3012 3201");
        due.is("way(6, 0)", lots.way(6, 0), NO);
    }

    static void promise9LastByTheBoard(Due due) {
        GiftLots lots = new GiftLots();
        lots.may(0, 3, false);
        due.is("the ways", ways(lots), "1032 1230 1302 2031 2301 2310");
        due.is("way(6, 0)", lots.way(6, 0), NO);
    }

    static void promise9Unknown(Due due) {
        for (int bad : new int[] {-1, 4, LOW, HIGH}) {
            due.is("way(0, " + bad + ")", new GiftLots().way(0, bad), UNKNOWN);
        }
    }

    static void promise9HandPlaysNoPartAndStays(Due due) {
        GiftLots lots = withHand("3210");
        due.is("way 0", way(lots, 0), "1032");
        due.is("the hand", hand(lots), "3210");
    }

    // ---- promise 10: rounds

    static void promise10NoRoundAtAll(Due due) {
        for (int n = 2; n <= 8; n++) {
            due.is("rounds(0) of " + n, of(n).rounds(0), 0);
        }
        due.is("rounds(0), no WAYS", withBoard(NOBODY).rounds(0), 0);
    }

    static void promise10OneRound(Due due) {
        int rounds = 1;
        for (int n = 2; n <= 8; n++) {
            due.is("rounds(1) of " + n, of(n).rounds(1), rounds);
            rounds *= n;
        }
    }

    static void promise10AsManyAsCanBe(Due due) {
        int[] mostRounds = {0, 0, 1, 2, 3, 20, 15, 210, 105};
        for (int n = 2; n <= 8; n++) {
            due.is("rounds(" + n / 2 + ") of " + n, of(n).rounds(n / 2), mostRounds[n]);
        }
    }

    static void promise10OneMoreThanCanBe(Due due) {
        for (int n = 2; n <= 8; n++) {
            due.is("rounds(" + (n / 2 + 1) + ") of " + n, of(n).rounds(n / 2 + 1), 0);
        }
    }

    static void promise10NumbersFarOutsideAreNotRefused(Due due) {
        due.is("rounds(-1)", of(8).rounds(-1), 0);
        due.is("rounds(8)", of(8).rounds(8), 0);
        due.is("rounds(9)", of(8).rounds(9), 0);
        for (int far : FAR) {
            due.is("rounds(" + far + ")", of(8).rounds(far), 0);
        }
        for (int wrapped : new int[] {32 + 1, 256 + 2, 65536 + 1, LOW + 1, -256 + 1}) {
            due.is("rounds(" + wrapped + ")", of(8).rounds(wrapped), 0);
        }
    }

    static void promise10NoWays(Due due) {
        for (int n = 0; n <= 5; n++) {
            due.is("rounds(" + n + ")", withBoard(NOBODY).rounds(n), 0);
        }
    }

    static void promise10JustOneWay(Due due) {
        GiftLots lots = withBoard("1", "0", "3", "2");
        due.is("rounds(1)", lots.rounds(1), 0);
        due.is("rounds(2)", lots.rounds(2), 1);
        due.is("rounds(3)", lots.rounds(3), 0);
        lots = withBoard(ONE_ROUND);
        due.is("rounds(1)", lots.rounds(1), 1);
        due.is("rounds(2)", lots.rounds(2), 0);
    }

    static void promise10OnlyRoundsAsLongAsLeast(Due due) {
        GiftLots lots = of(8);
        lots.least(4);
        due.is("rounds(1)", lots.rounds(1), 5040);
        due.is("rounds(2)", lots.rounds(2), 1260);
        due.is("rounds(3)", lots.rounds(3), 0);
        lots.least(5);
        due.is("rounds(1)", lots.rounds(1), 5040);
        due.is("rounds(2)", lots.rounds(2), 0);
        lots.least(8);
        due.is("rounds(1)", lots.rounds(1), 5040);
    }

    static void promise10LeastBeyondTheOnes(Due due) {
        GiftLots lots = of(7);
        lots.least(8);
        for (int n = 0; n <= 4; n++) {
            due.is("rounds(" + n + ")", lots.rounds(n), 0);
        }
    }

    static void promise10AllTogetherAreTheWays(Due due) {
        for (int n = 2; n <= 8; n++) {
            for (int least = 2; least <= 8; least++) {
                GiftLots lots = of(n);
                lots.least(least);
                int sum = lots.rounds(1) + lots.rounds(2) + lots.rounds(3) + lots.rounds(4);
                due.is("all rounds of " + n + " by LEAST " + least, sum, lots.ways());
            }
        }
    }

    // ---- promise 11: both

    static void promise11FirstAndLastOne(Due due) {
        for (int n = 2; n <= 8; n++) {
            int share = FREE_WAYS[n] / (n - 1);
            due.is("both(0, last) of " + n, of(n).both(0, n - 1), share);
            due.is("both(last, 0) of " + n, of(n).both(n - 1, 0), share);
        }
    }

    static void promise11OneAndTheSameIsNotRefused(Due due) {
        for (int one = 0; one < 4; one++) {
            due.is("both(" + one + ", " + one + ")", new GiftLots().both(one, one), 0);
        }
    }

    static void promise11Unknown(Due due) {
        for (int bad : new int[] {-1, 4, LOW, HIGH}) {
            due.is("both(" + bad + ", 0)", new GiftLots().both(bad, 0), UNKNOWN);
            due.is("both(0, " + bad + ")", new GiftLots().both(0, bad), UNKNOWN);
            due.is("both(" + bad + ", " + bad + ")", new GiftLots().both(bad, bad), UNKNOWN);
        }
    }

    static void promise11BarredPair(Due due) {
        GiftLots lots = new GiftLots();
        lots.may(1, 2, false);
        due.is("both(1, 2)", lots.both(1, 2), 0);
        due.is("both(2, 1)", lots.both(2, 1), 2);
    }

    static void promise11NoWays(Due due) {
        GiftLots lots = withBoard("123", "", "013", "012");
        due.is("both(0, 1)", lots.both(0, 1), 0);
    }

    static void promise11InAllWays(Due due) {
        GiftLots lots = new GiftLots();
        only(lots, 0, "2");
        due.is("both(0, 2)", lots.both(0, 2), 3);
        due.is("ways()", lots.ways(), 3);
    }

    static void promise11OnlyWaysAsLongAsLeast(Due due) {
        GiftLots lots = new GiftLots();
        lots.least(3);
        due.is("both(0, 1)", lots.both(0, 1), 2);
        lots.least(5);
        due.is("both(0, 1)", lots.both(0, 1), 0);
    }

    static void promise11HandPlaysNoPart(Due due) {
        due.is("both(0, 1)", withHand("3210").both(0, 1), 3);
    }

    // ---- promise 12: rooks

    static void promise12NoneIsTakenInOneWay(Due due) {
        for (int n = 2; n <= 8; n++) {
            due.is("rooks(0) of " + n, of(n).rooks(0), 1);
            due.is("rooks(0) of " + n + ", all barred", nobody(n).rooks(0), 1);
        }
    }

    static void promise12BelowZeroIsOutside(Due due) {
        due.is("rooks(-1)", new GiftLots().rooks(-1), OUTSIDE);
    }

    static void promise12EightIsTaken(Due due) {
        due.is("rooks(8) of 8", of(8).rooks(8), 1);
        due.is("rooks(8) of 7", of(7).rooks(8), 0);
        due.is("rooks(8) of 4", of(4).rooks(8), 0);
        due.is("rooks(8) of 2", of(2).rooks(8), 0);
    }

    static void promise12NineIsOutside(Due due) {
        due.is("rooks(9) of 8", of(8).rooks(9), OUTSIDE);
        due.is("rooks(9) of 2", of(2).rooks(9), OUTSIDE);
    }

    static void promise12FarNumbersAreOutside(Due due) {
        for (int far : FAR) {
            due.is("rooks(" + far + ")", new GiftLots().rooks(far), OUTSIDE);
        }
    }

    static void promise12AsManyAsThereAreOnes(Due due) {
        for (int n = 2; n <= 8; n++) {
            due.is("rooks(" + n + ")", of(n).rooks(n), 1);
        }
    }

    static void promise12OneMoreThanThereAreOnes(Due due) {
        for (int n = 2; n <= 7; n++) {
            due.is("rooks(" + (n + 1) + ") of " + n, of(n).rooks(n + 1), 0);
            due.is("rooks(" + (n + 1) + ") of " + n + ", all barred", nobody(n).rooks(n + 1), 0);
        }
    }

    static void promise12EachOneWithItselfCounts(Due due) {
        for (int n = 2; n <= 8; n++) {
            due.is("rooks(1) of " + n, of(n).rooks(1), n);
            due.is("rooks(2) of " + n, of(n).rooks(2), n * (n - 1) / 2);
        }
    }

    static void promise12AllBarred(Due due) {
        int orders = 1;
        for (int n = 2; n <= 8; n++) {
            orders *= n;
            due.is("rooks(1) of " + n, nobody(n).rooks(1), n * n);
            due.is("rooks(" + n + ") of " + n, nobody(n).rooks(n), orders);
        }
        due.is("rooks(7) of 8", nobody(8).rooks(7), 322560);
    }

    static void promise12NoTwoOfOneGiver(Due due) {
        GiftLots lots = of(2);
        lots.may(0, 1, false);
        due.is("rooks(1)", lots.rooks(1), 3);
        due.is("rooks(2)", lots.rooks(2), 1);
    }

    static void promise12NoTwoOfOneGetter(Due due) {
        GiftLots lots = of(3);
        lots.may(0, 2, false);
        lots.may(1, 2, false);
        due.is("rooks(1)", lots.rooks(1), 5);
        due.is("rooks(2)", lots.rooks(2), 5);
        due.is("rooks(3)", lots.rooks(3), 1);
    }

    static void promise12LeastAndHandPlayNoPart(Due due) {
        GiftLots lots = withHand("1032");
        lots.least(8);
        due.is("rooks(1)", lots.rooks(1), 4);
        due.is("rooks(4)", lots.rooks(4), 1);
    }

    static void promise12FreeWaysByRooks(Due due) {
        GiftLots lots = of(6);
        lots.couple(0, 1);
        lots.couple(2, 5);
        lots.may(4, 3, false);
        int[] orders = {1, 1, 2, 6, 24, 120, 720};
        int sum = 0;
        for (int k = 0; k <= 6; k++) {
            sum += (k % 2 == 0 ? 1 : -1) * lots.rooks(k) * orders[6 - k];
        }
        due.is("free()", lots.free(), sum);
    }

    // ---- promise 13: heap

    static void promise13None(Due due) {
        for (int n = 2; n <= 8; n++) {
            due.is("heap() of " + n, of(n).heap(), 0);
        }
    }

    static void promise13AsManyGettersAsGiversIsNone(Due due) {
        due.is("heap()", withBoard(ONE_ROUND).heap(), 0);
        due.is("heap()", withBoard("12", "02", "01", "012").heap(), 0b1111);
        due.is("heap()", withBoard("12", "02", "013", "012").heap(), 0);
    }

    static void promise13OneAlone(Due due) {
        for (int n = 2; n <= 8; n++) {
            for (int one = 0; one < n; one++) {
                GiftLots lots = of(n);
                only(lots, one, "");
                due.is("heap() of " + n, lots.heap(), 1 << one);
            }
        }
    }

    static void promise13AllTogether(Due due) {
        for (int n = 3; n <= 8; n++) {
            for (int one = 0; one < n; one++) {
                GiftLots lots = of(n);
                for (int from = 0; from < n; from++) {
                    lots.may(from, one, false);
                }
                // All but one are no heap: they give to just as many; with two ONES, one alone is.
                due.is("heap() of " + n + ", nobody gives to " + one, lots.heap(), (1 << n) - 1);
            }
        }
    }

    static void promise13OfTheOnlyTwo(Due due) {
        due.is("heap(), 0 gives to none", withBoard("", "0").heap(), 1);
        due.is("heap(), 1 gives to none", withBoard("1", "").heap(), 2);
        due.is("heap(), none gives", withBoard("", "").heap(), 1);
    }

    static void promise13AllBarred(Due due) {
        for (int n = 2; n <= 8; n++) {
            due.is("heap() of " + n, nobody(n).heap(), 1);
        }
    }

    static void promise13FewestOnesFirst(Due due) {
        // 0, 1 and 2 give to 3 and 4 alone; 5 and 6 to 7 alone.
        due.is("heap()", withBoard("34", "34", "34", "01267", "01267", "7", "7", "0125").heap(), 0b1100000);
        due.is("heap(), 7 gives to none", withBoard("34", "34", "34", "0167", "0167", "7", "7", "").heap(), 0b10000000);
    }

    static void promise13LesserFirstNumberFirst(Due due) {
        // 0 and 3 share one getter, 1 and 2 another one: the bits of 1 and 2 are the lesser number.
        due.is("heap()", withBoard("4", "5", "5", "4", "01235", "01234").heap(), 0b1001);
    }

    static void promise13LesserSecondNumberFirst(Due due) {
        // 0 and 2 share one getter only if 1 and 3 do not come first: of 0, 2 and 0, 3 the former.
        due.is("heap()", withBoard("4", "0235", "4", "4", "01235", "01234").heap(), 0b101);
    }

    static void promise13FirstNumberCountsAheadOfTheLast(Due due) {
        due.is("heap()", withBoard("4", "5", "5", "01256", "0123567", "012346", "01245", "4").heap(), 0b10000001);
    }

    static void promise13OneNumberAloneTheLesserFirst(Due due) {
        GiftLots lots = of(8);
        only(lots, 7, "");
        only(lots, 3, "");
        only(lots, 5, "");
        due.is("heap()", lots.heap(), 0b1000);
    }

    static void promise13ThreeNumbers(Due due) {
        // 0, 4, 5 and 1, 2, 3: three each with two getters.
        due.is("heap()", withBoard("67", "45", "45", "45", "67", "67", "012345", "0123456").heap(), 0b110001);
    }

    static void promise13LeastAndHandPlayNoPart(Due due) {
        GiftLots lots = withHand("1032");
        lots.least(8);
        due.is("heap()", lots.heap(), 0);
    }

    static void promise13NoFreeWayJustIfThereIsOne(Due due) {
        due.is("free() with a heap", withBoard("3", "3", "0134", "0124", "0123").free(), 0);
        due.is("heap()", withBoard("3", "3", "0134", "0124", "0123").heap(), 0b11);
        due.is("free() without", withBoard("3", "4", "013", "012", "012").heap(), 0);
        due.holds("free() without", withBoard("3", "4", "013", "012", "012").free() > 0);
    }
}
