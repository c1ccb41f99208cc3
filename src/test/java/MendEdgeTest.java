/** The boundary cases of promises 21 to 23: ONE x falls out of THE HAND, and the MENDS of the fewest CHANGES. */
public final class MendEdgeTest extends Given {
    public static void main(String[] args) throws IllegalAccessException {
        Cases.run(MendEdgeTest.class);
    }

    private static GiftLots withHandAndLeast(String hand, int least) {
        GiftLots lots = withHand(hand);
        lots.least(least);
        return lots;
    }

    /** 0 to n - 1 in one ROUND. */
    private static GiftLots oneRound(int n, int least) {
        return withHandAndLeast("12345678".substring(0, n - 1) + "0", least);
    }

    /** What all three calls tell of a fall that has a mend. */
    private static void fall(Due due, GiftLots lots, int x, int changes, int mends, String first) {
        due.is("changes(" + x + ")", lots.changes(x), changes);
        due.is("mends(" + x + ")", lots.mends(x), mends);
        due.is("mend(" + x + ", ..)", mend(lots, x), first);
    }

    private static void noMend(Due due, GiftLots lots, int x) {
        due.is("changes(" + x + ")", lots.changes(x), NONE);
        due.is("mends(" + x + ")", lots.mends(x), 0);
        for (int one = 0; one < lots.told(0); one++) {
            due.is("mend(" + x + ", " + one + ")", lots.mend(x, one), one == x ? UNKNOWN : NONE);
        }
    }

    private static GiftLots without(String hand, int from, int to) {
        GiftLots lots = withHand(hand);
        lots.may(from, to, false);
        return lots;
    }

    // ---- refusals

    static void promise21Unknown(Due due) {
        for (int bad : new int[] {-1, 4, LOW, HIGH}) {
            due.is("changes(" + bad + ")", withHand("1230").changes(bad), UNKNOWN);
        }
    }

    static void promise22Unknown(Due due) {
        for (int bad : new int[] {-1, 4, LOW, HIGH}) {
            due.is("mends(" + bad + ")", withHand("1230").mends(bad), UNKNOWN);
        }
    }

    static void promise23UnknownOneThatFalls(Due due) {
        for (int bad : new int[] {-1, 4, LOW, HIGH}) {
            due.is("mend(" + bad + ", 0)", withHand("1230").mend(bad, 0), UNKNOWN);
        }
    }

    static void promise23UnknownOneThatGives(Due due) {
        for (int bad : new int[] {-1, 4, LOW, HIGH}) {
            due.is("mend(0, " + bad + ")", withHand("1230").mend(0, bad), UNKNOWN);
        }
    }

    static void promise23TheOneIsX(Due due) {
        for (int n = 2; n <= 8; n++) {
            for (int x = 0; x < n; x++) {
                due.is("mend(" + x + ", " + x + ") of " + n, oneRound(n, 2).mend(x, x), UNKNOWN);
            }
        }
    }

    static void promise21StateOnlyOneGivesToNone(Due due) {
        for (int none = 0; none < 4; none++) {
            GiftLots lots = withHand("1230");
            lots.lay(none, -1);
            for (int x = 0; x < 4; x++) {
                due.is("changes(" + x + ") without " + none, lots.changes(x), STATE);
            }
        }
    }

    static void promise22StateOnlyOneGivesToNone(Due due) {
        for (int none = 0; none < 4; none++) {
            GiftLots lots = withHand("1230");
            lots.lay(none, -1);
            for (int x = 0; x < 4; x++) {
                due.is("mends(" + x + ") without " + none, lots.mends(x), STATE);
            }
        }
    }

    static void promise23StateOnlyOneGivesToNone(Due due) {
        for (int none = 0; none < 4; none++) {
            GiftLots lots = withHand("1230");
            lots.lay(none, -1);
            for (int x = 0; x < 4; x++) {
                due.is("mend(" + x + ", ..) without " + none, lots.mend(x, 3 - x), STATE);
            }
        }
    }

    static void promise21NoOnePairIsBarred(Due due) {
        for (int from = 0; from < 4; from++) {
            due.is("changes(0)", without("1230", from, (from + 1) % 4).changes(0), NO);
        }
    }

    static void promise22NoOnePairIsBarred(Due due) {
        for (int from = 0; from < 4; from++) {
            due.is("mends(0)", without("1230", from, (from + 1) % 4).mends(0), NO);
        }
    }

    static void promise23NoOnePairIsBarred(Due due) {
        for (int from = 0; from < 4; from++) {
            due.is("mend(0, 1)", without("1230", from, (from + 1) % 4).mend(0, 1), NO);
        }
    }

    /** Even if it is the round of x itself that is too short, or x that is barred: THE HAND is no WAY. */
    static void promise21NoRoundIsTooShort(Due due) {
        due.is("changes(0)", withHandAndLeast("10342", 3).changes(0), NO);
        due.is("changes(2)", withHandAndLeast("10342", 3).changes(2), NO);
        due.is("changes(2) by LEAST 2", withHandAndLeast("10342", 2).changes(2), 1);
    }

    static void promise22NoRoundIsTooShort(Due due) {
        due.is("mends(0)", withHandAndLeast("10342", 3).mends(0), NO);
        due.is("mends(2)", withHandAndLeast("10342", 3).mends(2), NO);
        due.is("mends(2) by LEAST 2", withHandAndLeast("10342", 2).mends(2), 1);
    }

    static void promise23NoRoundIsTooShort(Due due) {
        due.is("mend(0, 1)", withHandAndLeast("10342", 3).mend(0, 1), NO);
        due.is("mend(2, 4)", withHandAndLeast("10342", 3).mend(2, 4), NO);
        due.is("mend(2, 4) by LEAST 2", withHandAndLeast("10342", 2).mend(2, 4), 3);
    }

    // ---- none, the fewest and the most

    static void noMendOfTheOnlyTwo(Due due) {
        noMend(due, withHand("10"), 0);
        noMend(due, withHand("10"), 1);
    }

    static void ofThreeTheOthersSwap(Due due) {
        fall(due, withHand("120"), 0, 1, 1, "-21");
        fall(due, withHand("120"), 1, 1, 1, "2-0");
        fall(due, withHand("120"), 2, 1, 1, "10-");
        fall(due, withHand("201"), 2, 1, 1, "10-");
    }

    static void othersAreJustAsManyAsLeast(Due due) {
        for (int n = 3; n <= 8; n++) {
            for (int x = 0; x < n; x++) {
                due.is("changes(" + x + ") of " + n, oneRound(n, n - 1).changes(x), 1);
                due.is("mends(" + x + ") of " + n, oneRound(n, n - 1).mends(x), 1);
                int giver = (x + n - 1) % n;
                due.is("mend(" + x + ", " + giver + ") of " + n, oneRound(n, n - 1).mend(x, giver), (x + 1) % n);
            }
        }
    }

    static void othersAreFewerThanLeast(Due due) {
        for (int n = 2; n <= 8; n++) {
            noMend(due, oneRound(n, n), 0);
            noMend(due, oneRound(n, n), n - 1);
        }
    }

    static void noMendByTheBoard(Due due) {
        // Whoever gave to 0 may give to nobody else.
        GiftLots lots = withHand("1230");
        only(lots, 3, "0");
        noMend(due, lots, 0);
        fall(due, lots, 1, 1, 1, "2-30");
    }

    static void noMendSinceNobodyElseMayGiveToOne(Due due) {
        // 1 could get from 0 alone.
        GiftLots lots = withHand("1230");
        lots.may(2, 1, false);
        lots.may(3, 1, false);
        noMend(due, lots, 0);
        fall(due, lots, 1, 1, 1, "2-30");
    }

    static void oneChangeClosesTheGap(Due due) {
        for (int n = 3; n <= 8; n++) {
            for (int x = 0; x < n; x++) {
                GiftLots lots = oneRound(n, 2);
                int giver = (x + n - 1) % n;
                due.is("changes(" + x + ") of " + n, lots.changes(x), 1);
                due.is("mends(" + x + ") of " + n, lots.mends(x), 1);
                for (int one = 0; one < n; one++) {
                    int want = one == x ? UNKNOWN : one == giver ? (x + 1) % n : (one + 1) % n;
                    due.is("mend(" + x + ", " + one + ") of " + n, lots.mend(x, one), want);
                }
            }
        }
    }

    static void allOthersChange(Due due) {
        // The gap cannot be closed, and each may else only give backwards.
        GiftLots lots = withBoard("16", "02", "13", "24", "35", "46", "57", "0");
        layAll(lots, "12345670");
        fall(due, lots, 7, 7, 1, "6012345-");
    }

    static void brokenRoundOfTwoJoinsAnother(Due due) {
        fall(due, withHand("1032"), 0, 2, 2, "-231");
        fall(due, withHand("1032"), 3, 2, 2, "120-");
        fall(due, withHand("10325476"), 7, 2, 6, "1032564-");
        fall(due, withHand("10325476"), 0, 2, 6, "-2315476");
    }

    static void brokenRoundThatIsTooShortThenJoinsAnother(Due due) {
        // By LEAST 3, 3 and 4 may not swap: they enter the other ROUND, at one of three places.
        fall(due, withHandAndLeast("120453", 2), 5, 1, 1, "12043-");
        fall(due, withHandAndLeast("120453", 3), 5, 2, 3, "12340-");
        // Three are left of a ROUND of four.
        fall(due, withHandAndLeast("12305674", 3), 4, 1, 1, "1230-675");
        fall(due, withHandAndLeast("12305674", 4), 4, 2, 4, "1235-670");
    }

    static void roundOfTheOthersStays(Due due) {
        fall(due, withHand("120453"), 0, 1, 1, "-21453");
        // Two of 0 and 1, of 3 and 5, of 6 and 7: 4 enters between any giver and its getter.
        fall(due, withHand("10452376"), 2, 2, 6, "10-45376");
    }

    // ---- the board and LEAST

    static void oneThatFallsPlaysNoPartAnyMore(Due due) {
        // 0 may give to 1 alone, and only 3 to 0.
        GiftLots lots = withHand("1230");
        only(lots, 0, "1");
        lots.may(1, 0, false);
        lots.may(2, 0, false);
        fall(due, lots, 0, 1, 1, "-231");
    }

    static void gapThatIsBarredCostsMore(Due due) {
        fall(due, without("1230", 3, 1), 0, 3, 1, "-312");
        GiftLots lots = without("1230", 3, 1);
        lots.may(1, 3, false);
        noMend(due, lots, 0);
    }

    static void onlyMendsAsLongAsLeast(Due due) {
        // 3 cannot close the gap, and 1032 has ROUNDS of two.
        GiftLots lots = without("12340", 3, 0);
        fall(due, lots, 4, 2, 1, "1032-");
        lots.least(3);
        fall(due, lots, 4, 3, 3, "1302-");
        lots.least(4);
        fall(due, lots, 4, 3, 3, "1302-");
    }

    // ---- all of the fewest, and the first of them

    static void onlyMendsOfTheFewestChangesCount(Due due) {
        GiftLots lots = withHand("120453");
        fall(due, lots, 5, 1, 1, "12043-");
        lots.may(4, 3, false);
        fall(due, lots, 5, 2, 3, "12340-");
    }

    static void firstMendOfAllMayHaveMoreChanges(Due due) {
        // 231 goes before 312, but all three change in it.
        fall(due, withHand("3012"), 0, 1, 1, "-312");
        fall(due, without("3012", 1, 3), 0, 3, 1, "-231");
    }

    static void firstIsByTheFirstThatDiffers(Due due) {
        GiftLots lots = withHand("1032");
        due.is("mend(0, ..)", mend(lots, 0), "-231");
        lots.may(1, 2, false);
        fall(due, lots, 0, 2, 1, "-312");
        lots.may(1, 3, false);
        noMend(due, lots, 0);
        lots.may(1, 2, true);
        fall(due, lots, 0, 2, 1, "-231");
    }

    static void othersStayAsTheyAreNumbered(Due due) {
        fall(due, withHand("1230"), 0, 1, 1, "-231");
        fall(due, withHand("1230"), 1, 1, 1, "2-30");
        fall(due, withHand("1230"), 2, 1, 1, "13-0");
        fall(due, withHand("1230"), 3, 1, 1, "120-");
    }

    static void handStays(Due due) {
        GiftLots lots = withHand("1032");
        String before = state(lots);
        fall(due, lots, 2, 2, 2, "13-0");
        due.is("the object", state(lots), before);
        due.is("rank()", lots.rank(), 0);
        noMend(due, withHand("10"), 0);
        GiftLots two = withHand("10");
        two.changes(0);
        two.mends(1);
        two.mend(0, 1);
        due.is("the hand", hand(two), "10");
    }
}
