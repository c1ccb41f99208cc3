/** The boundary cases of promises 14 to 20 and 24: THE HAND, what is drawn, shared and known by it, and told. */
public final class HandEdgeTest extends Given {
    private static final String[] NOBODY = {"", "", "", ""};
    /** Just one WAY: 1230. */
    private static final String[] ONE_ROUND = {"1", "2", "3", "0"};

    public static void main(String[] args) throws IllegalAccessException {
        Cases.run(HandEdgeTest.class);
    }

    private static GiftLots withHandAndLeast(String hand, int least) {
        GiftLots lots = withHand(hand);
        lots.least(least);
        return lots;
    }

    /** Just one WAY by the board, and a hand, which may be another. */
    private static GiftLots oneRoundWithHand(String hand) {
        GiftLots lots = withBoard(ONE_ROUND);
        layAll(lots, hand);
        return lots;
    }

    // ---- promise 14: lay

    static void promise14FirstAndLastOne(Due due) {
        for (int n = 2; n <= 8; n++) {
            GiftLots lots = of(n);
            due.is("lay(0, last)", lots.lay(0, n - 1), NONE);
            due.is("lay(last, 0)", lots.lay(n - 1, 0), NONE);
            due.is("laid(0)", lots.laid(0), n - 1);
            due.is("laid(last)", lots.laid(n - 1), 0);
            due.is("told(3)", lots.told(3), 2);
        }
    }

    static void promise14ToNone(Due due) {
        GiftLots lots = withHand("1032");
        due.is("lay(0, -1)", lots.lay(0, -1), 1);
        due.is("the hand", hand(lots), "-032");
        due.is("lay(3, -1)", lots.lay(3, -1), 2);
        due.is("the hand", hand(lots), "-03-");
    }

    static void promise14ToNoneTwice(Due due) {
        GiftLots lots = new GiftLots();
        due.is("lay(0, -1)", lots.lay(0, -1), NONE);
        due.is("lay(0, -1)", lots.lay(0, -1), NONE);
        due.is("the hand", hand(lots), "----");
    }

    static void promise14NoneIsNotTaken(Due due) {
        GiftLots lots = withHand("12--");
        due.is("lay(0, -1)", lots.lay(0, -1), 1);
        due.is("lay(1, -1), while others give to none", lots.lay(1, -1), 2);
        due.is("the hand", hand(lots), "----");
    }

    static void promise14OneBelowNoneIsUnknown(Due due) {
        due.is("lay(0, -2)", new GiftLots().lay(0, -2), UNKNOWN);
        due.is("lay(0, NONE)", new GiftLots().lay(0, NONE), UNKNOWN);
    }

    static void promise14UnknownGetter(Due due) {
        for (int bad : new int[] {4, 5, LOW, HIGH}) {
            due.is("lay(0, " + bad + ")", new GiftLots().lay(0, bad), UNKNOWN);
        }
    }

    static void promise14UnknownGiver(Due due) {
        for (int bad : new int[] {-1, 4, LOW, HIGH}) {
            due.is("lay(" + bad + ", 0)", new GiftLots().lay(bad, 0), UNKNOWN);
            due.is("lay(" + bad + ", -1)", new GiftLots().lay(bad, -1), UNKNOWN);
        }
    }

    static void promise14OneThatGivesToItself(Due due) {
        for (int n = 2; n <= 8; n++) {
            for (int one = 0; one < n; one++) {
                due.is("lay(" + one + ", " + one + ")", of(n).lay(one, one), UNKNOWN);
            }
        }
    }

    static void promise14AnotherGivesToThatOne(Due due) {
        for (int other = 1; other < 4; other++) {
            GiftLots lots = new GiftLots();
            lots.lay(other, 0);
            for (int from = 1; from < 4; from++) {
                if (from != other) {
                    due.is("lay(" + from + ", 0)", lots.lay(from, 0), STATE);
                }
            }
        }
    }

    static void promise14FirstOrLastGivesToThatOne(Due due) {
        for (int n = 3; n <= 8; n++) {
            GiftLots lots = of(n);
            lots.lay(0, 1);
            due.is("lay(last, 1)", lots.lay(n - 1, 1), STATE);
            lots.lay(n - 1, 0);
            due.is("lay(1, 0)", lots.lay(1, 0), STATE);
        }
    }

    static void promise14TheSameAgainIsNoState(Due due) {
        GiftLots lots = withHand("1---");
        due.is("lay(0, 1)", lots.lay(0, 1), 1);
        due.is("the hand", hand(lots), "1---");
    }

    static void promise14FreedByNone(Due due) {
        GiftLots lots = withHand("1---");
        due.is("lay(2, 1)", lots.lay(2, 1), STATE);
        lots.lay(0, -1);
        due.is("lay(2, 1)", lots.lay(2, 1), NONE);
        due.is("the hand", hand(lots), "--1-");
    }

    static void promise14FreedByAnother(Due due) {
        GiftLots lots = withHand("1---");
        due.is("lay(0, 3)", lots.lay(0, 3), 1);
        due.is("lay(2, 1)", lots.lay(2, 1), NONE);
        due.is("lay(1, 3)", lots.lay(1, 3), STATE);
        due.is("the hand", hand(lots), "3-1-");
    }

    static void promise14FullHand(Due due) {
        GiftLots lots = withHand("1230");
        for (int from = 0; from < 4; from++) {
            for (int to = 0; to < 4; to++) {
                int want = from == to ? UNKNOWN : to == (from + 1) % 4 ? to : STATE;
                due.is("lay(" + from + ", " + to + ")", lots.lay(from, to), want);
            }
        }
        due.is("the hand", hand(lots), "1230");
        due.is("told(3)", lots.told(3), 4);
    }

    static void promise14BoardAndLeastPlayNoPart(Due due) {
        GiftLots lots = withBoard(NOBODY);
        lots.least(8);
        due.is("lay(0, 1)", lots.lay(0, 1), NONE);
        due.is("lay(1, 0)", lots.lay(1, 0), NONE);
        due.is("the hand", hand(lots), "10--");
        due.is("told(2)", lots.told(2), 0);
    }

    static void layLeavesTheBoardAndLeast(Due due) {
        GiftLots lots = withBoard("23", "03", "013", "12");
        lots.least(3);
        lots.lay(0, 1);
        lots.lay(1, 0);
        lots.lay(0, -1);
        due.is("the board", board(lots), "23 03 013 12");
        due.is("told(1)", lots.told(1), 3);
    }

    // ---- promise 15: laid

    static void promise15FirstAndLastOne(Due due) {
        for (int n = 2; n <= 8; n++) {
            GiftLots lots = of(n);
            due.is("laid(0)", lots.laid(0), NONE);
            due.is("laid(last)", lots.laid(n - 1), NONE);
            lots.draw(FREE_WAYS[n] - 1);
            due.is("laid(0)", lots.laid(0), n - 1);
            due.is("laid(last)", lots.laid(n - 1), n == 3 ? 1 : 0);
        }
    }

    static void promise15Unknown(Due due) {
        for (int bad : new int[] {-1, 4, 7, 8, LOW, HIGH}) {
            due.is("laid(" + bad + ")", withHand("1230").laid(bad), UNKNOWN);
        }
    }

    static void promise15NoneAgain(Due due) {
        GiftLots lots = withHand("1230");
        lots.lay(3, -1);
        due.is("laid(3)", lots.laid(3), NONE);
        due.is("laid(0)", lots.laid(0), 1);
    }

    // ---- promise 16: draw

    static void promise16FirstWay(Due due) {
        GiftLots lots = new GiftLots();
        due.is("draw(0)", lots.draw(0), 1);
        due.is("the hand", hand(lots), "1032");
    }

    static void promise16LastWay(Due due) {
        GiftLots lots = new GiftLots();
        due.is("draw(8)", lots.draw(8), 1);
        due.is("the hand", hand(lots), "3210");
        lots = of(8);
        due.is("draw(14832)", lots.draw(14832), 1);
        due.is("the hand", hand(lots), "76543210");
    }

    static void promise16OneBeyondTheLastWay(Due due) {
        for (int n = 2; n <= 8; n++) {
            GiftLots lots = of(n);
            due.is("draw of " + n, lots.draw(FREE_WAYS[n]), NO);
            due.is("told(3)", lots.told(3), 0);
        }
    }

    static void promise16BelowZero(Due due) {
        due.is("draw(-1)", new GiftLots().draw(-1), NO);
        due.is("draw(-9)", new GiftLots().draw(-9), NO);
    }

    static void promise16FarNumbers(Due due) {
        for (int k : new int[] {LOW, LOW + 1, -256, -65536, 256, 65536, HIGH - 1, HIGH}) {
            due.is("draw(" + k + ")", new GiftLots().draw(k), NO);
        }
    }

    static void promise16NoWays(Due due) {
        due.is("draw(0), all barred", withBoard(NOBODY).draw(0), NO);
        GiftLots lots = new GiftLots();
        lots.least(5);
        due.is("draw(0) by LEAST 5", lots.draw(0), NO);
    }

    static void promise16JustOneWay(Due due) {
        GiftLots lots = withBoard(ONE_ROUND);
        due.is("draw(1)", lots.draw(1), NO);
        due.is("draw(0)", lots.draw(0), 1);
        due.is("the hand", hand(lots), "1230");
    }

    static void promise16RefusedLeavesTheHand(Due due) {
        GiftLots lots = withHand("2-1-");
        due.is("draw(9)", lots.draw(9), NO);
        due.is("draw(-1)", lots.draw(-1), NO);
        due.is("the hand", hand(lots), "2-1-");
    }

    static void promise16InPlaceOfAnotherHand(Due due) {
        GiftLots lots = withHand("3-0-");
        due.is("draw(1)", lots.draw(1), 1);
        due.is("the hand", hand(lots), "1230");
        due.is("draw(4)", lots.draw(4), 1);
        due.is("the hand", hand(lots), "2301");
    }

    static void promise16LastByLeastAndBoard(Due due) {
        GiftLots lots = new GiftLots();
        lots.least(4);
        lots.may(0, 3, false);
        due.is("draw(4)", lots.draw(4), NO);
        due.is("draw(3)", lots.draw(3), 1);
        due.is("the hand", hand(lots), "2310");
    }

    static void drawLeavesTheBoardAndLeast(Due due) {
        GiftLots lots = withBoard("23", "03", "013", "12");
        lots.least(3);
        due.is("draw(0)", lots.draw(0), 1);
        due.is("the board", board(lots), "23 03 013 12");
        due.is("told(1)", lots.told(1), 3);
    }

    // ---- promise 17: rank

    static void promise17HandHasNone(Due due) {
        for (int n = 2; n <= 8; n++) {
            due.is("rank() of " + n, of(n).rank(), STATE);
        }
    }

    static void promise17OnlyOneGivesToNone(Due due) {
        for (int n = 2; n <= 8; n++) {
            for (int one = 0; one < n; one++) {
                GiftLots lots = of(n);
                lots.draw(0);
                lots.lay(one, -1);
                due.is("rank() of " + n + " without " + one, lots.rank(), STATE);
            }
        }
    }

    static void promise17FirstWay(Due due) {
        due.is("rank() of 10", withHand("10").rank(), 0);
        due.is("rank() of 120", withHand("120").rank(), 0);
        due.is("rank() of 10325476", withHand("10325476").rank(), 0);
    }

    static void promise17LastWay(Due due) {
        due.is("rank() of 201", withHand("201").rank(), 1);
        due.is("rank() of 3210", withHand("3210").rank(), 8);
        due.is("rank() of 76543210", withHand("76543210").rank(), 14832);
    }

    static void promise17EachWay(Due due) {
        for (int n = 2; n <= 5; n++) {
            GiftLots lots = of(n);
            for (int k = 0; k < FREE_WAYS[n]; k++) {
                lots.draw(k);
                due.is("rank() of " + hand(lots), lots.rank(), k);
            }
        }
    }

    static void promise17OnePairIsBarred(Due due) {
        for (int one = 0; one < 4; one++) {
            GiftLots lots = withHand("1230");
            lots.may(one, (one + 1) % 4, false);
            due.is("rank(), " + one + " is barred", lots.rank(), NO);
        }
    }

    static void promise17RoundJustAsLongAsLeast(Due due) {
        due.is("rank() by LEAST 2", withHandAndLeast("1032", 2).rank(), 0);
        due.is("rank() by LEAST 4", withHandAndLeast("1230", 4).rank(), 0);
        due.is("rank() by LEAST 3", withHandAndLeast("120453", 3).rank(), 0);
    }

    static void promise17RoundTooShort(Due due) {
        due.is("rank() by LEAST 3", withHandAndLeast("1032", 3).rank(), NO);
        due.is("rank() by LEAST 5", withHandAndLeast("1230", 5).rank(), NO);
        due.is("rank() by LEAST 4", withHandAndLeast("120453", 4).rank(), NO);
    }

    static void promise17NoWays(Due due) {
        GiftLots lots = withBoard(NOBODY);
        layAll(lots, "1230");
        due.is("rank()", lots.rank(), NO);
    }

    static void promise17JustOneWay(Due due) {
        due.is("rank() of the way", oneRoundWithHand("1230").rank(), 0);
        due.is("rank() of another", oneRoundWithHand("3012").rank(), NO);
    }

    static void promise17WaysBeforeThatAreBarredDoNotCount(Due due) {
        GiftLots lots = withHand("3210");
        lots.couple(0, 1);
        due.is("rank()", lots.rank(), 3);
        lots.may(0, 2, false);
        due.is("rank()", lots.rank(), 1);
        lots.may(2, 0, false);
        due.is("rank()", lots.rank(), 0);
    }

    // ---- promise 18: share

    static void promise18OfTheFirstTheHandPlaysNoPart(Due due) {
        for (String hand : new String[] {"----", "1230", "3210", "-032"}) {
            GiftLots lots = withHand(hand);
            due.is("share(0, 0)", lots.share(0, 0), 0);
            due.is("share(0, 1)", lots.share(0, 1), 3);
            due.is("share(0, 3)", lots.share(0, 3), 3);
        }
    }

    static void promise18OfTheLast(Due due) {
        GiftLots lots = withHand("123-");
        due.is("share(3, 0)", lots.share(3, 0), 1);
        due.is("share(3, 1)", lots.share(3, 1), 0);
        due.is("share(3, 3)", lots.share(3, 3), 0);
        lots = withHand("7654321-");
        due.is("share(7, 0)", lots.share(7, 0), 1);
        due.is("share(7, 1)", lots.share(7, 1), 0);
    }

    static void promise18OneJustBelowGivesToNone(Due due) {
        GiftLots lots = withHand("1-30");
        due.is("share(2, 3)", lots.share(2, 3), STATE);
        due.is("share(1, 2)", lots.share(1, 2), 1);
        due.is("share(3, 0)", lots.share(3, 0), STATE);
    }

    static void promise18TheFirstGivesToNone(Due due) {
        GiftLots lots = withHand("-230");
        for (int i = 1; i < 4; i++) {
            due.is("share(" + i + ", 2)", lots.share(i, 2), STATE);
        }
        due.is("share(0, 1)", lots.share(0, 1), 3);
    }

    static void promise18ThatOneItselfMayGiveToNone(Due due) {
        GiftLots lots = withHand("10--");
        due.is("share(2, 3)", lots.share(2, 3), 1);
        due.is("share(3, 2)", lots.share(3, 2), STATE);
    }

    static void promise18ThatOneAndThoseAboveDoNotCount(Due due) {
        for (String hand : new String[] {"2---", "2-01", "2301", "2031", "20-1"}) {
            GiftLots lots = withHand(hand);
            due.is("share(1, 0)", lots.share(1, 0), 1);
            due.is("share(1, 3)", lots.share(1, 3), 2);
        }
    }

    static void promise18ToOneAndTheSameIsNotRefused(Due due) {
        GiftLots lots = withHand("1230");
        for (int one = 0; one < 4; one++) {
            due.is("share(" + one + ", " + one + ")", lots.share(one, one), 0);
        }
    }

    static void promise18ToOneThatGetsAlready(Due due) {
        GiftLots lots = withHand("1230");
        due.is("share(2, 1)", lots.share(2, 1), 0);
        due.is("share(3, 1)", lots.share(3, 1), 0);
        due.is("share(3, 2)", lots.share(3, 2), 0);
    }

    static void promise18Unknown(Due due) {
        for (int bad : new int[] {-1, 4, LOW, HIGH}) {
            due.is("share(" + bad + ", 0)", withHand("1230").share(bad, 0), UNKNOWN);
            due.is("share(0, " + bad + ")", withHand("1230").share(0, bad), UNKNOWN);
            due.is("share(3, " + bad + ")", withHand("1230").share(3, bad), UNKNOWN);
        }
    }

    static void promise18NoWays(Due due) {
        due.is("share(0, 1)", withBoard(NOBODY).share(0, 1), 0);
    }

    static void promise18HandBelowIsBarred(Due due) {
        GiftLots lots = withHand("1230");
        lots.may(0, 1, false);
        due.is("share(1, 2)", lots.share(1, 2), 0);
        due.is("share(3, 0)", lots.share(3, 0), 0);
        due.is("share(0, 2)", lots.share(0, 2), 3);
    }

    static void promise18ThePairIsBarred(Due due) {
        GiftLots lots = withHand("2---");
        lots.may(1, 3, false);
        due.is("share(1, 3)", lots.share(1, 3), 0);
        due.is("share(1, 0)", lots.share(1, 0), 1);
    }

    static void promise18OnlyWaysAsLongAsLeast(Due due) {
        GiftLots lots = withHandAndLeast("1---", 3);
        due.is("share(1, 0)", lots.share(1, 0), 0);
        due.is("share(1, 2)", lots.share(1, 2), 1);
        lots.least(5);
        due.is("share(1, 2)", lots.share(1, 2), 0);
    }

    static void promise18AllTogetherAreTheWaysSoFar(Due due) {
        GiftLots lots = withHand("43120");
        int so = lots.ways();
        for (int i = 0; i < 5; i++) {
            int sum = 0;
            for (int j = 0; j < 5; j++) {
                sum += lots.share(i, j);
            }
            due.is("all shares of " + i, sum, so);
            so = lots.share(i, lots.laid(i));
        }
    }

    // ---- promise 19: knows

    static void promise19FirstAndLastOne(Due due) {
        GiftLots lots = withHand("3--0");
        due.is("knows(0)", lots.knows(0), 3);
        due.is("knows(3)", lots.knows(3), 3);
        lots = withHand("7------0");
        due.is("knows(0) of 8", lots.knows(0), 2119);
        due.is("knows(7) of 8", lots.knows(7), 2119);
    }

    static void promise19OnlyThatOneGivesToNone(Due due) {
        for (int one = 0; one < 4; one++) {
            GiftLots lots = withHand("1230");
            lots.lay(one, -1);
            for (int asked = 0; asked < 4; asked++) {
                due.is("knows(" + asked + ") without " + one, lots.knows(asked), asked == one ? STATE : 3);
            }
        }
    }

    static void promise19OthersInTheHandPlayNoPart(Due due) {
        for (String hand : new String[] {"1---", "1230", "1032", "1-3-"}) {
            due.is("knows(0) with " + hand, withHand(hand).knows(0), 3);
        }
    }

    static void promise19Unknown(Due due) {
        for (int bad : new int[] {-1, 4, LOW, HIGH}) {
            due.is("knows(" + bad + ")", withHand("1230").knows(bad), UNKNOWN);
        }
    }

    static void promise19NoWayIsSoIsNotRefused(Due due) {
        GiftLots lots = withHand("1230");
        lots.may(0, 1, false);
        due.is("knows(0), barred", lots.knows(0), 0);
        due.is("knows(0) by LEAST 5", withHandAndLeast("1230", 5).knows(0), 0);
        due.is("knows(2), no WAYS", oneRoundWithHand("3210").knows(2), 0);
    }

    static void promise19JustOneWay(Due due) {
        due.is("knows(0)", oneRoundWithHand("1---").knows(0), 1);
        due.is("knows(1) of 2", withHand("10").knows(1), 1);
    }

    static void promise19AllWays(Due due) {
        GiftLots lots = withHand("1---");
        only(lots, 0, "1");
        due.is("knows(0)", lots.knows(0), 3);
        due.is("ways()", lots.ways(), 3);
    }

    static void promise19OnlyWaysAsLongAsLeast(Due due) {
        due.is("knows(0) by LEAST 3", withHandAndLeast("1---", 3).knows(0), 2);
        due.is("knows(0) by LEAST 4", withHandAndLeast("1---", 4).knows(0), 2);
    }

    // ---- promise 20: sure

    static void promise20OfItselfAlways(Due due) {
        for (int n = 2; n <= 8; n++) {
            GiftLots lots = of(n);
            lots.draw(0);
            for (int one = 0; one < n; one++) {
                due.is("sure(" + one + ", " + one + ") of " + n, lots.sure(one, one), 1);
            }
        }
    }

    static void promise20OfItselfButNoWayIsSo(Due due) {
        GiftLots lots = withHand("1230");
        lots.may(0, 1, false);
        due.is("sure(0, 0)", lots.sure(0, 0), NO);
        due.is("sure(1, 1)", lots.sure(1, 1), 1);
    }

    static void promise20OfItselfButGivesToNone(Due due) {
        due.is("sure(0, 0)", withHand("-230").sure(0, 0), STATE);
    }

    static void promise20OfAllInJustOneWay(Due due) {
        GiftLots lots = oneRoundWithHand("1---");
        for (int other = 0; other < 4; other++) {
            due.is("sure(0, " + other + ")", lots.sure(0, other), 1);
        }
        due.is("sure(0, 1) of 2", withHand("1-").sure(0, 1), 1);
        due.is("sure(1, 0) of 2", withHand("-0").sure(1, 0), 1);
    }

    static void promise20OfNoneInManyWays(Due due) {
        GiftLots lots = of(8);
        lots.draw(0);
        for (int other = 1; other < 8; other++) {
            due.is("sure(0, " + other + ")", lots.sure(0, other), 0);
            due.is("sure(" + other + ", 0)", lots.sure(other, 0), 0);
        }
    }

    static void promise20OfSomeInTwoWays(Due due) {
        // Of 0 to 1 there are 1032 and 1230: 2 gives to 3 in both, 1 and 3 do not.
        GiftLots lots = withHand("1---");
        only(lots, 1, "02");
        due.is("knows(0)", lots.knows(0), 2);
        due.is("sure(0, 0)", lots.sure(0, 0), 1);
        due.is("sure(0, 1)", lots.sure(0, 1), 0);
        due.is("sure(0, 2)", lots.sure(0, 2), 1);
        due.is("sure(0, 3)", lots.sure(0, 3), 0);
    }

    static void promise20OneWayIsOtherwiseToALaterOne(Due due) {
        // Of 0 to 1: 2 gives to 3 in three WAYS, to 4 in one.
        GiftLots lots = withBoard("1", "0234", "34", "04", "02");
        layAll(lots, "1----");
        due.is("knows(0)", lots.knows(0), 4);
        due.is("sure(0, 2)", lots.sure(0, 2), 0);
        lots.may(2, 4, false);
        due.is("knows(0)", lots.knows(0), 3);
        due.is("sure(0, 2)", lots.sure(0, 2), 1);
    }

    static void promise20OneWayIsOtherwiseToAnEarlierOne(Due due) {
        // Of 0 to 1: 2 gives to 3 in two WAYS, to 0 in one.
        GiftLots lots = withBoard("1", "0234", "03", "04", "2");
        layAll(lots, "1----");
        due.is("knows(0)", lots.knows(0), 3);
        due.is("sure(0, 2)", lots.sure(0, 2), 0);
        lots.may(2, 0, false);
        due.is("knows(0)", lots.knows(0), 2);
        due.is("sure(0, 2)", lots.sure(0, 2), 1);
    }

    static void promise20OthersInTheHandPlayNoPart(Due due) {
        GiftLots lots = withHand("1230");
        due.is("sure(0, 1)", lots.sure(0, 1), 0);
        due.is("sure(2, 3)", lots.sure(2, 3), 0);
        lots = oneRoundWithHand("10--");
        due.is("sure(0, 1), which is laid elsewhere", lots.sure(0, 1), 1);
        due.is("sure(0, 3), which gives to none", lots.sure(0, 3), 1);
    }

    static void promise20OnlyThatOneGivesToNone(Due due) {
        GiftLots lots = withHand("1-30");
        for (int other = 0; other < 4; other++) {
            due.is("sure(1, " + other + ")", lots.sure(1, other), STATE);
        }
        due.is("sure(0, 1)", lots.sure(0, 1), 0);
        due.is("sure(3, 1)", lots.sure(3, 1), 0);
    }

    static void promise20Unknown(Due due) {
        for (int bad : new int[] {-1, 4, LOW, HIGH}) {
            due.is("sure(" + bad + ", 0)", withHand("1230").sure(bad, 0), UNKNOWN);
            due.is("sure(0, " + bad + ")", withHand("1230").sure(0, bad), UNKNOWN);
            due.is("sure(" + bad + ", " + bad + ")", withHand("1230").sure(bad, bad), UNKNOWN);
        }
    }

    static void promise20NoWayIsSo(Due due) {
        due.is("sure(0, 1) by LEAST 5", withHandAndLeast("1230", 5).sure(0, 1), NO);
        GiftLots lots = withHand("1230");
        lots.may(0, 1, false);
        due.is("sure(0, 1), barred", lots.sure(0, 1), NO);
        due.is("sure(1, 0), which is not", lots.sure(1, 0), 1);
        due.is("sure(2, 0), no WAYS", oneRoundWithHand("3210").sure(2, 0), NO);
    }

    static void promise20OnlyWaysAsLongAsLeast(Due due) {
        // Of 0 to 1 there are 1032 and 1230; the former has ROUNDS of two.
        GiftLots lots = withHand("1---");
        only(lots, 1, "02");
        due.is("sure(0, 1) by LEAST 2", lots.sure(0, 1), 0);
        lots.least(3);
        due.is("sure(0, 1) by LEAST 3", lots.sure(0, 1), 1);
    }

    // ---- promise 24: told

    static void promise24OnesAtBothEnds(Due due) {
        due.is("told(0) of 2", of(2).told(0), 2);
        due.is("told(0) of 8", of(8).told(0), 8);
    }

    static void promise24LeastAtBothEnds(Due due) {
        due.is("told(1)", new GiftLots().told(1), 2);
        due.is("told(1)", withHandAndLeast("----", 8).told(1), 8);
    }

    static void promise24PairsAtBothEnds(Due due) {
        due.is("told(2), all barred", withBoard(NOBODY).told(2), 0);
        due.is("told(2) of 2", of(2).told(2), 2);
        due.is("told(2) of 8", of(8).told(2), 56);
        GiftLots lots = new GiftLots();
        lots.may(3, 0, false);
        due.is("told(2), one barred", lots.told(2), 11);
        due.is("told(2), one free", withBoard("", "", "", "0").told(2), 1);
    }

    static void promise24GiversAtBothEnds(Due due) {
        due.is("told(3), none gives", new GiftLots().told(3), 0);
        due.is("told(3), the first gives", withHand("1---").told(3), 1);
        due.is("told(3), the last gives", withHand("---0").told(3), 1);
        due.is("told(3), all but one give", withHand("123-").told(3), 3);
        due.is("told(3), all give", withHand("1230").told(3), 4);
        due.is("told(3), all of 8 give", withHand("76543210").told(3), 8);
    }

    static void promise24BelowZeroIsOutside(Due due) {
        due.is("told(-1)", new GiftLots().told(-1), OUTSIDE);
    }

    static void promise24FourIsOutside(Due due) {
        due.is("told(4)", new GiftLots().told(4), OUTSIDE);
        due.is("told(5)", new GiftLots().told(5), OUTSIDE);
    }

    static void promise24FarNumbersAreOutside(Due due) {
        for (int far : FAR) {
            due.is("told(" + far + ")", new GiftLots().told(far), OUTSIDE);
        }
    }
}
