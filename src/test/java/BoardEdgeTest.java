/** The boundary cases of promises 1 to 6: a new object, and what changes the ONES, THE BOARD and LEAST. */
public final class BoardEdgeTest extends Given {
    private static final String FREE_4 = "123 023 013 012";

    public static void main(String[] args) throws IllegalAccessException {
        Cases.run(BoardEdgeTest.class);
    }

    // ---- promise 1: as told at first

    static void promise1FourOnes(Due due) {
        due.is("told(0)", new GiftLots().told(0), 4);
        due.is("laid(3)", new GiftLots().laid(3), NONE);
        due.is("laid(4)", new GiftLots().laid(4), UNKNOWN);
        due.is("ones(4)", new GiftLots().ones(4), 4);
    }

    static void promise1LeastIsTwo(Due due) {
        due.is("told(1)", new GiftLots().told(1), 2);
        due.is("least(2)", new GiftLots().least(2), 2);
    }

    static void promise1AllMay(Due due) {
        due.is("told(2)", new GiftLots().told(2), 12);
        due.is("the board", board(new GiftLots()), FREE_4);
    }

    static void promise1HandHasNone(Due due) {
        due.is("told(3)", new GiftLots().told(3), 0);
        due.is("the hand", hand(new GiftLots()), "----");
    }

    static void promise1FirstCallOfEach(Due due) {
        due.is("bar()", new GiftLots().bar(), 0);
        due.is("ways()", new GiftLots().ways(), 9);
        due.is("free()", new GiftLots().free(), 9);
        due.is("way(8, 3)", new GiftLots().way(8, 3), 0);
        due.is("rounds(2)", new GiftLots().rounds(2), 3);
        due.is("both(3, 0)", new GiftLots().both(3, 0), 3);
        due.is("rooks(4)", new GiftLots().rooks(4), 1);
        due.is("heap()", new GiftLots().heap(), 0);
        due.is("lay(0, 1)", new GiftLots().lay(0, 1), NONE);
        due.is("draw(0)", new GiftLots().draw(0), 1);
        due.is("rank()", new GiftLots().rank(), STATE);
        due.is("share(0, 1)", new GiftLots().share(0, 1), 3);
        due.is("share(1, 0)", new GiftLots().share(1, 0), STATE);
        due.is("knows(0)", new GiftLots().knows(0), STATE);
        due.is("sure(0, 0)", new GiftLots().sure(0, 0), STATE);
        due.is("changes(0)", new GiftLots().changes(0), STATE);
        due.is("mends(0)", new GiftLots().mends(0), STATE);
        due.is("mend(0, 1)", new GiftLots().mend(0, 1), STATE);
    }

    static void promise1ObjectsAreApart(Due due) {
        GiftLots lots = new GiftLots();
        GiftLots other = new GiftLots();
        String before = state(lots);
        other.couple(0, 1);
        other.least(3);
        other.draw(0);
        other.ones(8);
        other.draw(9999);
        due.is("the first object", state(lots), before);
        due.is("ways()", lots.ways(), 9);
    }

    // ---- promise 2: ones

    static void promise2TwoAreTaken(Due due) {
        GiftLots lots = new GiftLots();
        due.is("ones(2)", lots.ones(2), 4);
        due.is("the object", state(lots), "2 ONES, LEAST 2, 2 pairs: 1 0, 0 give: --");
    }

    static void promise2OneIsTooFew(Due due) {
        GiftLots lots = new GiftLots();
        due.is("ones(1)", lots.ones(1), OUTSIDE);
        due.is("told(0)", lots.told(0), 4);
    }

    static void promise2EightAreTaken(Due due) {
        GiftLots lots = new GiftLots();
        due.is("ones(8)", lots.ones(8), 4);
        due.is("told(0)", lots.told(0), 8);
        due.is("told(2)", lots.told(2), 56);
        due.is("the hand", hand(lots), "--------");
    }

    static void promise2NineAreTooMany(Due due) {
        GiftLots lots = new GiftLots();
        due.is("ones(9)", lots.ones(9), OUTSIDE);
        due.is("told(0)", lots.told(0), 4);
    }

    static void promise2ZeroIsOutside(Due due) {
        due.is("ones(0)", new GiftLots().ones(0), OUTSIDE);
    }

    static void promise2BelowZeroIsOutside(Due due) {
        due.is("ones(-1)", new GiftLots().ones(-1), OUTSIDE);
        due.is("ones(-4)", new GiftLots().ones(-4), OUTSIDE);
    }

    static void promise2FarNumbersAreOutside(Due due) {
        for (int far : FAR) {
            due.is("ones(" + far + ")", new GiftLots().ones(far), OUTSIDE);
        }
        for (int wrapped : new int[] {32 + 4, 256 + 4, 65536 + 4, LOW + 4, -256 + 4}) {
            due.is("ones(" + wrapped + ")", new GiftLots().ones(wrapped), OUTSIDE);
        }
    }

    static void promise2EachNumberBetweenIsTaken(Due due) {
        for (int n = 2; n <= 8; n++) {
            due.is("told(0)", of(n).told(0), n);
            due.is("told(2)", of(n).told(2), n * (n - 1));
        }
    }

    static void promise2AnswersHowManyThereWere(Due due) {
        GiftLots lots = new GiftLots();
        due.is("ones(8)", lots.ones(8), 4);
        due.is("ones(2)", lots.ones(2), 8);
        due.is("ones(2)", lots.ones(2), 2);
        due.is("ones(9)", lots.ones(9), OUTSIDE);
        due.is("ones(1)", lots.ones(1), OUTSIDE);
        due.is("ones(7)", lots.ones(7), 2);
    }

    private static GiftLots used(int n) {
        GiftLots lots = of(n);
        lots.draw(0);
        lots.bar();
        lots.least(n);
        return lots;
    }

    static void promise2AllMayAnew(Due due) {
        for (int n : new int[] {4, 3, 2}) {
            GiftLots lots = used(n);
            lots.ones(4);
            due.is("the board after ones(" + n + ") and ones(4)", board(lots), FREE_4);
            due.is("told(2)", lots.told(2), 12);
        }
        GiftLots lots = used(8);
        lots.ones(4);
        due.is("the board after ones(8) and ones(4)", board(lots), FREE_4);
        due.is("ways()", lots.ways(), 9);
    }

    static void promise2HandHasNoneAnew(Due due) {
        for (int n : new int[] {2, 3, 4, 8}) {
            GiftLots lots = used(n);
            lots.ones(4);
            due.is("the hand after ones(" + n + ") and ones(4)", hand(lots), "----");
            due.is("told(3)", lots.told(3), 0);
            due.is("rank()", lots.rank(), STATE);
        }
    }

    static void promise2LeastIsTwoAnew(Due due) {
        for (int least = 2; least <= 8; least++) {
            GiftLots lots = new GiftLots();
            lots.least(least);
            lots.ones(4);
            due.is("told(1) after least(" + least + ")", lots.told(1), 2);
            due.is("ways()", lots.ways(), 9);
        }
    }

    static void promise2FewerAndMoreAgainAreAnew(Due due) {
        GiftLots lots = of(8);
        lots.draw(14832);
        lots.bar();
        lots.ones(2);
        lots.ones(8);
        due.is("told(2)", lots.told(2), 56);
        due.is("the hand", hand(lots), "--------");
        due.is("ways()", lots.ways(), 14833);
    }

    static void promise2FewerOnesAreNotGivenToAnyMore(Due due) {
        GiftLots lots = of(8);
        lots.lay(0, 7);
        lots.ones(3);
        due.is("the board", board(lots), "12 02 01");
        due.is("heap()", lots.heap(), 0);
        due.is("ways()", lots.ways(), 2);
        due.is("rooks(3)", lots.rooks(3), 1);
        due.is("lay(0, 7)", lots.lay(0, 7), UNKNOWN);
    }

    // ---- promise 3: may

    static void promise3FirstAndLastOne(Due due) {
        for (int n = 2; n <= 8; n++) {
            GiftLots lots = of(n);
            due.is("may(0, last, false)", lots.may(0, n - 1, false), 1);
            due.is("may(0, last, false) again", lots.may(0, n - 1, false), 0);
            due.is("may(last, 0, false)", lots.may(n - 1, 0, false), 1);
            due.is("may(last, 0, false) again", lots.may(n - 1, 0, false), 0);
            due.is("told(2)", lots.told(2), n * (n - 1) - 2);
        }
    }

    static void promise3UnknownGiver(Due due) {
        for (int bad : new int[] {-1, 4, LOW, HIGH}) {
            due.is("may(" + bad + ", 0, true)", new GiftLots().may(bad, 0, true), UNKNOWN);
            due.is("may(" + bad + ", 0, false)", new GiftLots().may(bad, 0, false), UNKNOWN);
        }
    }

    static void promise3UnknownGetter(Due due) {
        for (int bad : new int[] {-1, 4, LOW, HIGH}) {
            due.is("may(0, " + bad + ", true)", new GiftLots().may(0, bad, true), UNKNOWN);
            due.is("may(0, " + bad + ", false)", new GiftLots().may(0, bad, false), UNKNOWN);
        }
    }

    static void promise3OneAndTheSame(Due due) {
        for (int n = 2; n <= 8; n++) {
            for (int one = 0; one < n; one++) {
                due.is("may(" + one + ", " + one + ", true)", of(n).may(one, one, true), NO);
                due.is("may(" + one + ", " + one + ", false)", of(n).may(one, one, false), NO);
            }
        }
    }

    static void promise3AnswersWhetherItMight(Due due) {
        GiftLots lots = new GiftLots();
        due.is("may(1, 2, true), free before", lots.may(1, 2, true), 1);
        due.is("may(1, 2, false), free before", lots.may(1, 2, false), 1);
        due.is("may(1, 2, false), barred before", lots.may(1, 2, false), 0);
        due.is("may(1, 2, true), barred before", lots.may(1, 2, true), 0);
        due.is("may(1, 2, true), free before", lots.may(1, 2, true), 1);
        due.is("the board", board(lots), FREE_4);
    }

    static void promise3OneDirectionOnly(Due due) {
        GiftLots lots = new GiftLots();
        lots.may(1, 2, false);
        due.is("the board", board(lots), "123 03 013 012");
        lots.couple(1, 2);
        lots.may(2, 1, true);
        due.is("the board", board(lots), "123 03 013 012");
    }

    static void promise3EmptyBoardAndFullAgain(Due due) {
        for (int n = 2; n <= 8; n++) {
            GiftLots lots = of(n);
            for (int from = 0; from < n; from++) {
                only(lots, from, "");
            }
            due.is("told(2)", lots.told(2), 0);
            due.is("ways()", lots.ways(), 0);
            for (int from = 0; from < n; from++) {
                only(lots, from, "01234567");
            }
            due.is("told(2)", lots.told(2), n * (n - 1));
            due.is("ways()", lots.ways(), FREE_WAYS[n]);
        }
    }

    static void promise3LeavesTheHandAndLeast(Due due) {
        GiftLots lots = withHand("1032");
        lots.least(3);
        lots.may(0, 1, false);
        due.is("the hand", hand(lots), "1032");
        due.is("told(1)", lots.told(1), 3);
    }

    // ---- promise 4: couple

    static void promise4BothPairsWereFree(Due due) {
        GiftLots lots = new GiftLots();
        due.is("couple(1, 2)", lots.couple(1, 2), 2);
        due.is("the board", board(lots), "123 03 03 012");
    }

    static void promise4OnlyTheFirstWasFree(Due due) {
        GiftLots lots = new GiftLots();
        lots.may(2, 1, false);
        due.is("couple(1, 2)", lots.couple(1, 2), 1);
        due.is("the board", board(lots), "123 03 03 012");
    }

    static void promise4OnlyTheSecondWasFree(Due due) {
        GiftLots lots = new GiftLots();
        lots.may(1, 2, false);
        due.is("couple(1, 2)", lots.couple(1, 2), 1);
        due.is("the board", board(lots), "123 03 03 012");
    }

    static void promise4NoneWasFree(Due due) {
        GiftLots lots = new GiftLots();
        lots.couple(1, 2);
        due.is("couple(1, 2)", lots.couple(1, 2), 0);
        due.is("couple(2, 1)", lots.couple(2, 1), 0);
        due.is("the board", board(lots), "123 03 03 012");
    }

    static void promise4FirstAndLastOne(Due due) {
        for (int n = 2; n <= 8; n++) {
            GiftLots lots = of(n);
            due.is("couple(last, 0) of " + n, lots.couple(n - 1, 0), 2);
            due.is("couple(0, last) of " + n, lots.couple(0, n - 1), 0);
            due.is("told(2)", lots.told(2), n * (n - 1) - 2);
        }
    }

    static void promise4Unknown(Due due) {
        for (int bad : new int[] {-1, 4, LOW, HIGH}) {
            due.is("couple(" + bad + ", 0)", new GiftLots().couple(bad, 0), UNKNOWN);
            due.is("couple(0, " + bad + ")", new GiftLots().couple(0, bad), UNKNOWN);
        }
    }

    static void promise4OneAndTheSame(Due due) {
        for (int one = 0; one < 4; one++) {
            due.is("couple(" + one + ", " + one + ")", new GiftLots().couple(one, one), NO);
        }
        due.is("couple(7, 7)", of(8).couple(7, 7), NO);
    }

    static void promise4OfTheOnlyTwo(Due due) {
        GiftLots lots = of(2);
        due.is("couple(0, 1)", lots.couple(0, 1), 2);
        due.is("told(2)", lots.told(2), 0);
        due.is("ways()", lots.ways(), 0);
    }

    static void promise4LeavesTheHandAndLeast(Due due) {
        GiftLots lots = withHand("1032");
        lots.least(3);
        lots.couple(0, 1);
        due.is("the hand", hand(lots), "1032");
        due.is("told(1)", lots.told(1), 3);
    }

    // ---- promise 5: bar

    static void promise5HandHasNone(Due due) {
        for (int n = 2; n <= 8; n++) {
            GiftLots lots = of(n);
            String before = state(lots);
            due.is("bar()", lots.bar(), 0);
            due.is("the object", state(lots), before);
        }
    }

    static void promise5OnlyOneGives(Due due) {
        for (int one = 0; one < 4; one++) {
            GiftLots lots = new GiftLots();
            lots.lay(one, (one + 1) % 4);
            due.is("bar()", lots.bar(), 1);
            due.is("may(one, next)", lots.may(one, (one + 1) % 4, false), 0);
            due.is("told(2)", lots.told(2), 11);
        }
    }

    static void promise5AllGive(Due due) {
        for (int n = 2; n <= 8; n++) {
            GiftLots lots = of(n);
            lots.draw(0);
            due.is("bar() of " + n, lots.bar(), n);
            due.is("told(2)", lots.told(2), n * (n - 1) - n);
            due.is("rooks(1)", lots.rooks(1), 2 * n);
            due.is("rank()", lots.rank(), NO);
        }
    }

    static void promise5SomeWereBarredBefore(Due due) {
        GiftLots lots = withHand("1230");
        lots.may(1, 2, false);
        lots.may(3, 0, false);
        due.is("bar()", lots.bar(), 2);
        due.is("the board", board(lots), "23 03 01 12");
    }

    static void promise5AllWereBarredBefore(Due due) {
        GiftLots lots = withHand("1230");
        due.is("bar()", lots.bar(), 4);
        due.is("bar() again", lots.bar(), 0);
        due.is("the board", board(lots), "23 03 01 12");
    }

    static void promise5TheOtherDirectionStays(Due due) {
        GiftLots lots = withHand("1---");
        lots.bar();
        due.is("the board", board(lots), "23 023 013 012");
    }

    static void promise5LeavesTheHandAndLeast(Due due) {
        GiftLots lots = withHand("1230");
        lots.least(4);
        lots.bar();
        due.is("the hand", hand(lots), "1230");
        due.is("told(1)", lots.told(1), 4);
    }

    static void promise5OfTheOnlyTwo(Due due) {
        GiftLots lots = withHand("10");
        due.is("bar()", lots.bar(), 2);
        due.is("ways()", lots.ways(), 0);
        due.is("heap()", lots.heap(), 1);
    }

    static void promise5HandThatIsNoWay(Due due) {
        GiftLots lots = withHand("10");
        lots.least(3);
        due.is("bar(), too short a ROUND", lots.bar(), 2);
    }

    // ---- promise 6: least

    static void promise6TwoIsTaken(Due due) {
        GiftLots lots = new GiftLots();
        lots.least(3);
        due.is("least(2)", lots.least(2), 3);
        due.is("told(1)", lots.told(1), 2);
    }

    static void promise6OneIsOutside(Due due) {
        GiftLots lots = new GiftLots();
        due.is("least(1)", lots.least(1), OUTSIDE);
        due.is("told(1)", lots.told(1), 2);
    }

    static void promise6EightIsTaken(Due due) {
        GiftLots lots = new GiftLots();
        due.is("least(8)", lots.least(8), 2);
        due.is("told(1)", lots.told(1), 8);
    }

    static void promise6NineIsOutside(Due due) {
        GiftLots lots = new GiftLots();
        due.is("least(9)", lots.least(9), OUTSIDE);
        due.is("told(1)", lots.told(1), 2);
    }

    static void promise6ZeroAndBelowAreOutside(Due due) {
        due.is("least(0)", new GiftLots().least(0), OUTSIDE);
        due.is("least(-1)", new GiftLots().least(-1), OUTSIDE);
    }

    static void promise6FarNumbersAreOutside(Due due) {
        for (int far : FAR) {
            due.is("least(" + far + ")", new GiftLots().least(far), OUTSIDE);
        }
        for (int wrapped : new int[] {32 + 4, 256 + 4, 65536 + 4, LOW + 4, -256 + 4}) {
            due.is("least(" + wrapped + ")", new GiftLots().least(wrapped), OUTSIDE);
        }
    }

    static void promise6EachNumberBetweenIsTaken(Due due) {
        GiftLots lots = new GiftLots();
        int was = 2;
        for (int least = 2; least <= 8; least++) {
            due.is("least(" + least + ")", lots.least(least), was);
            due.is("told(1)", lots.told(1), least);
            was = least;
        }
    }

    static void promise6AnswersWhichItWas(Due due) {
        GiftLots lots = new GiftLots();
        due.is("least(5)", lots.least(5), 2);
        due.is("least(5)", lots.least(5), 5);
        due.is("least(9)", lots.least(9), OUTSIDE);
        due.is("least(1)", lots.least(1), OUTSIDE);
        due.is("least(2)", lots.least(2), 5);
        due.is("least(8)", lots.least(8), 2);
    }

    static void promise6MoreThanThereAreOnes(Due due) {
        GiftLots lots = of(2);
        due.is("least(8)", lots.least(8), 2);
        due.is("told(1)", lots.told(1), 8);
        due.is("ways()", lots.ways(), 0);
        due.is("least(2)", lots.least(2), 8);
        due.is("ways()", lots.ways(), 1);
    }

    static void promise6LeavesTheHandAndTheBoard(Due due) {
        GiftLots lots = withHand("1032");
        lots.may(2, 0, false);
        lots.least(8);
        due.is("the hand", hand(lots), "1032");
        due.is("the board", board(lots), "123 023 13 012");
    }
}
