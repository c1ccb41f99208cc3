import java.util.Arrays;
import java.util.LinkedHashMap;
import java.util.Map;
import java.util.function.Function;
import java.util.function.ToIntFunction;

/**
 * The boundary cases of the document's 'Terms': the refusals, their order, that they change nothing, ONES,
 * WAYS and ROUNDS. ROOKS, HEAP, SHARE, KNOWS, SURE, MEND and CHANGES are looked at with their promises.
 */
public final class TermsEdgeTest extends Given {
    /** A call with one ONE left open; the others that it takes are ONES that there are. */
    private interface OneCall {
        int answer(GiftLots lots, int one);
    }

    public static void main(String[] args) throws IllegalAccessException {
        Cases.run(TermsEdgeTest.class);
    }

    // ---- the first line

    /** Four ONES of whom 0 and 1 are a couple, worked out by hand: what each part of the first line says. */
    static void oneStoryFromTheFirstLine(Due due) {
        GiftLots lots = new GiftLots();
        lots.couple(0, 1);
        due.is("some may not: WAYS", ways(lots), "2301 2310 3201 3210");
        lots.least(3);
        due.is("no rounds too short: WAYS", ways(lots), "2310 3201");
        due.is("all ways counted", lots.ways(), 2);
        due.is("by shares: share(0, 2)", lots.share(0, 2), 1);
        due.is("by shares: share(0, 3)", lots.share(0, 3), 1);
        due.is("drawn: draw(1)", lots.draw(1), 1);
        due.is("numbered in order: rank()", lots.rank(), 1);
        due.is("who gives to whom", hand(lots), "3201");
        due.is("what each may know: knows(2)", lots.knows(2), 1);
        due.is("what each may know of others: sure(2, 3)", lots.sure(2, 3), 1);
        due.is("barred boards by rooks", rooks(lots), "1 6 11 8 2");
        due.is("counted by rooks: free()", lots.free(), 24 - 6 * 6 + 11 * 2 - 8 * 1 + 2 * 1);
        due.is("one falls out: changes(2)", lots.changes(2), NONE);
        lots.may(1, 0, true);
        due.is("one falls out: changes(2)", lots.changes(2), 1);
        due.is("mended by the fewest changes", mend(lots, 2), "30-1");
        due.is("last time barred: bar()", lots.bar(), 4);
        due.is("last time barred: WAYS", ways(lots), "2310");
        lots.may(0, 2, false);
        due.is("a heap with too few", lots.heap(), 0b1);
        due.is("all ways counted", lots.ways(), 0);
    }

    private static String rooks(GiftLots lots) {
        StringBuilder text = new StringBuilder();
        for (int k = 0; k <= 4; k++) {
            text.append(k == 0 ? "" : " ").append(lots.rooks(k));
        }
        return text.toString();
    }

    /** Who goes by the shares comes to each WAY as likely: what is left by each step is what the next divides. */
    static void drawnAlikeLikelyByShares(Due due) {
        for (int k = 0; k < 16; k++) {
            GiftLots lots = of(5);
            lots.couple(0, 1);
            lots.couple(2, 3);
            due.is("ways()", lots.ways(), 16);
            lots.draw(k);
            int left = 16;
            for (int i = 0; i < 5; i++) {
                int sum = 0;
                for (int j = 0; j < 5; j++) {
                    sum += lots.share(i, j);
                }
                due.is("all shares of " + i + " towards way " + k, sum, left);
                left = lots.share(i, lots.laid(i));
            }
            due.is("the last share towards way " + k, left, 1);
        }
    }

    // ---- there is such a ONE, or not

    /** Each place of a ONE in each call. */
    private static Map<String, OneCall> oneCalls() {
        Map<String, OneCall> calls = new LinkedHashMap<>();
        calls.put("may(one, ..)", (lots, one) -> lots.may(one, one == 0 ? 1 : 0, true));
        calls.put("may(.., one)", (lots, one) -> lots.may(one == 0 ? 1 : 0, one, true));
        calls.put("may(one, .., false)", (lots, one) -> lots.may(one, one == 0 ? 1 : 0, false));
        calls.put("couple(one, ..)", (lots, one) -> lots.couple(one, one == 0 ? 1 : 0));
        calls.put("couple(.., one)", (lots, one) -> lots.couple(one == 0 ? 1 : 0, one));
        calls.put("way(0, one)", (lots, one) -> lots.way(0, one));
        calls.put("both(one, 0)", (lots, one) -> lots.both(one, 0));
        calls.put("both(0, one)", (lots, one) -> lots.both(0, one));
        calls.put("lay(one, ..)", (lots, one) -> lots.lay(one, one == 0 ? 1 : 0));
        calls.put("laid(one)", (lots, one) -> lots.laid(one));
        calls.put("share(one, 0)", (lots, one) -> lots.share(one, 0));
        calls.put("share(0, one)", (lots, one) -> lots.share(0, one));
        calls.put("knows(one)", (lots, one) -> lots.knows(one));
        calls.put("sure(one, 0)", (lots, one) -> lots.sure(one, 0));
        calls.put("sure(0, one)", (lots, one) -> lots.sure(0, one));
        calls.put("changes(one)", (lots, one) -> lots.changes(one));
        calls.put("mends(one)", (lots, one) -> lots.mends(one));
        calls.put("mend(one, ..)", (lots, one) -> lots.mend(one, one == 0 ? 1 : 0));
        calls.put("mend(.., one)", (lots, one) -> lots.mend(one == 0 ? 1 : 0, one));
        return calls;
    }

    private static GiftLots drawn(int n) {
        GiftLots lots = of(n);
        lots.draw(0);
        return lots;
    }

    static void firstOneIsKnown(Due due) {
        for (int n = 2; n <= 8; n++) {
            for (Map.Entry<String, OneCall> call : oneCalls().entrySet()) {
                due.holds(call.getKey() + " of " + n, call.getValue().answer(drawn(n), 0) != UNKNOWN);
            }
        }
    }

    static void lastOneIsKnown(Due due) {
        for (int n = 2; n <= 8; n++) {
            for (Map.Entry<String, OneCall> call : oneCalls().entrySet()) {
                due.holds(call.getKey() + " of " + n, call.getValue().answer(drawn(n), n - 1) != UNKNOWN);
            }
        }
    }

    static void oneBelowTheFirstIsUnknown(Due due) {
        for (int n = 2; n <= 8; n++) {
            for (Map.Entry<String, OneCall> call : oneCalls().entrySet()) {
                due.is(call.getKey() + " of " + n, call.getValue().answer(drawn(n), -1), UNKNOWN);
            }
        }
    }

    static void oneBeyondTheLastIsUnknown(Due due) {
        for (int n = 2; n <= 8; n++) {
            for (Map.Entry<String, OneCall> call : oneCalls().entrySet()) {
                due.is(call.getKey() + " of " + n, call.getValue().answer(drawn(n), n), UNKNOWN);
            }
        }
    }

    static void onesThatWereButAreNoMoreAreUnknown(Due due) {
        for (Map.Entry<String, OneCall> call : oneCalls().entrySet()) {
            GiftLots lots = drawn(8);
            lots.ones(7);
            lots.draw(0);
            due.is(call.getKey(), call.getValue().answer(lots, 7), UNKNOWN);
            due.holds(call.getKey() + " of the last one", call.getValue().answer(lots, 6) != UNKNOWN);
        }
    }

    static void farNumbersAreUnknown(Due due) {
        for (int n = 2; n <= 8; n += 3) {
            GiftLots lots = drawn(n);
            for (Map.Entry<String, OneCall> call : oneCalls().entrySet()) {
                for (int far : FAR) {
                    due.is(call.getKey() + " with " + far, call.getValue().answer(lots, far), UNKNOWN);
                }
            }
        }
    }

    /** Whom to lay is apart from the others, since -1 stands for none there. */
    static void onesToLayAreTheSame(Due due) {
        for (int n = 2; n <= 8; n++) {
            due.is("lay(1, 0) of " + n, of(n).lay(1, 0), NONE);
            due.is("lay(0, last) of " + n, of(n).lay(0, n - 1), NONE);
            due.is("lay(0, one beyond) of " + n, of(n).lay(0, n), UNKNOWN);
            due.is("lay(0, -1) of " + n, of(n).lay(0, -1), NONE);
            for (int far : FAR) {
                due.is("lay(0, " + far + ") of " + n, of(n).lay(0, far), UNKNOWN);
            }
        }
    }

    // ---- the first of the refusals that fits

    static void refusalsAreTheseNumbers(Due due) {
        due.is("UNKNOWN", GiftLots.UNKNOWN, -1);
        due.is("OUTSIDE", GiftLots.OUTSIDE, -2);
        due.is("STATE", GiftLots.STATE, -3);
        due.is("NO", GiftLots.NO, -5);
        due.is("NONE", GiftLots.NONE, -6);
    }

    static void unknownGoesBeforeNoInMay(Due due) {
        for (int bad : new int[] {-1, 4, HIGH}) {
            due.is("may(bad, bad, true)", new GiftLots().may(bad, bad, true), UNKNOWN);
            due.is("may(bad, bad, false)", new GiftLots().may(bad, bad, false), UNKNOWN);
        }
    }

    static void unknownGoesBeforeNoInCouple(Due due) {
        for (int bad : new int[] {-1, 4, HIGH}) {
            due.is("couple(bad, bad)", new GiftLots().couple(bad, bad), UNKNOWN);
        }
    }

    static void unknownGoesBeforeNoInWay(Due due) {
        for (int k : new int[] {-1, 9, LOW, HIGH}) {
            due.is("way(" + k + ", 4)", new GiftLots().way(k, 4), UNKNOWN);
            due.is("way(" + k + ", -1)", new GiftLots().way(k, -1), UNKNOWN);
        }
        due.is("way(0, 4), no WAYS", withBoard("", "", "", "").way(0, 4), UNKNOWN);
    }

    static void unknownGoesBeforeStateInLay(Due due) {
        GiftLots lots = withHand("1---");
        due.is("lay(4, 1)", lots.lay(4, 1), UNKNOWN);
        due.is("lay(-1, 1)", lots.lay(-1, 1), UNKNOWN);
        due.is("lay(1, 1)", lots.lay(1, 1), UNKNOWN);
    }

    static void unknownGoesBeforeStateInShare(Due due) {
        GiftLots lots = new GiftLots();
        due.is("share(4, 0)", lots.share(4, 0), UNKNOWN);
        due.is("share(3, 4)", lots.share(3, 4), UNKNOWN);
        due.is("share(3, -1)", lots.share(3, -1), UNKNOWN);
    }

    static void unknownGoesBeforeStateInKnows(Due due) {
        due.is("knows(4)", new GiftLots().knows(4), UNKNOWN);
        due.is("knows(-1)", new GiftLots().knows(-1), UNKNOWN);
    }

    static void unknownGoesBeforeStateInSure(Due due) {
        GiftLots lots = new GiftLots();
        due.is("sure(4, 0)", lots.sure(4, 0), UNKNOWN);
        due.is("sure(-1, 0)", lots.sure(-1, 0), UNKNOWN);
        due.is("sure(4, 4)", lots.sure(4, 4), UNKNOWN);
        due.is("sure(0, 4)", lots.sure(0, 4), UNKNOWN);
        due.is("sure(0, -1)", lots.sure(0, -1), UNKNOWN);
    }

    static void unknownGoesBeforeNoInSure(Due due) {
        GiftLots lots = withHand("1---");
        lots.may(0, 1, false);
        due.is("sure(0, 4)", lots.sure(0, 4), UNKNOWN);
        due.is("sure(0, -1)", lots.sure(0, -1), UNKNOWN);
    }

    static void stateGoesBeforeNoInSure(Due due) {
        due.is("sure(0, 0), no WAYS", withBoard("", "", "", "").sure(0, 0), STATE);
        due.is("sure(0, 1), no WAYS", withBoard("", "", "", "").sure(0, 1), STATE);
    }

    static void stateGoesBeforeNoInRank(Due due) {
        due.is("rank(), no WAYS", withBoard("", "", "", "").rank(), STATE);
        GiftLots lots = withHand("103-");
        lots.couple(0, 1);
        due.is("rank(), barred", lots.rank(), STATE);
        lots = withHand("10-");
        lots.least(3);
        due.is("rank(), too short", lots.rank(), STATE);
    }

    private static void falls(Due due, GiftLots lots, int want) {
        for (int x : new int[] {-1, 4, HIGH}) {
            due.is("changes(" + x + ")", lots.changes(x), UNKNOWN);
            due.is("mends(" + x + ")", lots.mends(x), UNKNOWN);
            due.is("mend(" + x + ", 0)", lots.mend(x, 0), UNKNOWN);
            due.is("mend(0, " + x + ")", lots.mend(0, x), UNKNOWN);
            due.is("mend(" + x + ", " + x + ")", lots.mend(x, x), UNKNOWN);
        }
        for (int x = 0; x < 4; x++) {
            due.is("mend(" + x + ", " + x + ")", lots.mend(x, x), UNKNOWN);
            due.is("changes(" + x + ")", lots.changes(x), want);
            due.is("mends(" + x + ")", lots.mends(x), want);
            due.is("mend(" + x + ", ..)", lots.mend(x, 3 - x), want);
        }
    }

    static void unknownGoesBeforeStateInFalls(Due due) {
        falls(due, new GiftLots(), STATE);
        falls(due, withHand("103-"), STATE);
    }

    static void unknownGoesBeforeNoInFalls(Due due) {
        GiftLots lots = withHand("1032");
        lots.may(3, 2, false);
        falls(due, lots, NO);
    }

    static void stateGoesBeforeNoInFalls(Due due) {
        GiftLots lots = withHand("103-");
        lots.may(0, 1, false);
        falls(due, lots, STATE);
    }

    static void unknownGoesBeforeNoneInMend(Due due) {
        GiftLots lots = withHand("10");
        due.is("mend(0, 0)", lots.mend(0, 0), UNKNOWN);
        due.is("mend(0, 2)", lots.mend(0, 2), UNKNOWN);
        due.is("mend(2, 0)", lots.mend(2, 0), UNKNOWN);
        due.is("mend(0, 1)", lots.mend(0, 1), NONE);
    }

    // ---- refused calls change nothing

    /** Five ONES with a narrowed board, LEAST 3, and a hand in which some give. */
    private static GiftLots some() {
        GiftLots lots = of(5);
        lots.least(3);
        lots.couple(0, 1);
        lots.may(4, 2, false);
        layAll(lots, "23-0-");
        return lots;
    }

    /** Four ONES with a whole hand that is no WAY: it is barred, and a ROUND of two is too short, too. */
    private static GiftLots noWay() {
        GiftLots lots = withHand("1032");
        lots.least(3);
        lots.may(0, 1, false);
        return lots;
    }

    private static void refused(Due due, GiftLots lots, int want, String call, ToIntFunction<GiftLots> asks) {
        String before = state(lots);
        due.is(call, asks.applyAsInt(lots), want);
        due.is("the object after " + call, state(lots), before);
    }

    static void refusedOnesChangesNothing(Due due) {
        for (int n : new int[] {1, 9, 0, -1, LOW, HIGH}) {
            refused(due, some(), OUTSIDE, "ones(" + n + ")", lots -> lots.ones(n));
        }
    }

    static void refusedMayChangesNothing(Due due) {
        for (boolean is : new boolean[] {true, false}) {
            for (int bad : new int[] {-1, 5}) {
                refused(due, some(), UNKNOWN, "may(" + bad + ", 0)", lots -> lots.may(bad, 0, is));
                refused(due, some(), UNKNOWN, "may(0, " + bad + ")", lots -> lots.may(0, bad, is));
            }
            refused(due, some(), NO, "may(2, 2)", lots -> lots.may(2, 2, is));
        }
    }

    static void refusedMayDoesNotLetOneGiveToItself(Due due) {
        GiftLots lots = new GiftLots();
        due.is("may(2, 2, true)", lots.may(2, 2, true), NO);
        due.is("told(2)", lots.told(2), 12);
        due.is("ways()", lots.ways(), 9);
        due.is("free()", lots.free(), 9);
        due.is("both(2, 2)", lots.both(2, 2), 0);
        due.is("rooks(1)", lots.rooks(1), 4);
    }

    static void refusedCoupleChangesNothing(Due due) {
        for (int bad : new int[] {-1, 5}) {
            refused(due, some(), UNKNOWN, "couple(" + bad + ", 0)", lots -> lots.couple(bad, 0));
            refused(due, some(), UNKNOWN, "couple(0, " + bad + ")", lots -> lots.couple(0, bad));
        }
        refused(due, some(), NO, "couple(2, 2)", lots -> lots.couple(2, 2));
    }

    static void refusedLeastChangesNothing(Due due) {
        for (int n : new int[] {1, 9, 0, -1, LOW, HIGH}) {
            refused(due, some(), OUTSIDE, "least(" + n + ")", lots -> lots.least(n));
        }
    }

    static void refusedWayChangesNothing(Due due) {
        refused(due, some(), UNKNOWN, "way(0, 5)", lots -> lots.way(0, 5));
        refused(due, some(), NO, "way(44, 0)", lots -> lots.way(44, 0));
        refused(due, some(), NO, "way(-1, 0)", lots -> lots.way(-1, 0));
    }

    static void refusedBothChangesNothing(Due due) {
        refused(due, some(), UNKNOWN, "both(5, 0)", lots -> lots.both(5, 0));
        refused(due, some(), UNKNOWN, "both(0, -1)", lots -> lots.both(0, -1));
    }

    static void refusedRooksChangesNothing(Due due) {
        refused(due, some(), OUTSIDE, "rooks(9)", lots -> lots.rooks(9));
        refused(due, some(), OUTSIDE, "rooks(-1)", lots -> lots.rooks(-1));
    }

    static void refusedLayChangesNothing(Due due) {
        for (int bad : new int[] {-2, 5, NONE}) {
            refused(due, some(), UNKNOWN, "lay(0, " + bad + ")", lots -> lots.lay(0, bad));
        }
        refused(due, some(), UNKNOWN, "lay(5, 4)", lots -> lots.lay(5, 4));
        refused(due, some(), UNKNOWN, "lay(-1, -1)", lots -> lots.lay(-1, -1));
        refused(due, some(), UNKNOWN, "lay(0, 0), which gives", lots -> lots.lay(0, 0));
        refused(due, some(), UNKNOWN, "lay(4, 4), which gives to none", lots -> lots.lay(4, 4));
        refused(due, some(), STATE, "lay(0, 3), which gives", lots -> lots.lay(0, 3));
        refused(due, some(), STATE, "lay(4, 3), which gives to none", lots -> lots.lay(4, 3));
    }

    static void refusedLaidChangesNothing(Due due) {
        refused(due, some(), UNKNOWN, "laid(5)", lots -> lots.laid(5));
        refused(due, some(), UNKNOWN, "laid(-1)", lots -> lots.laid(-1));
    }

    static void refusedDrawChangesNothing(Due due) {
        refused(due, some(), NO, "draw(44)", lots -> lots.draw(44));
        refused(due, some(), NO, "draw(-1)", lots -> lots.draw(-1));
        int ways = some().ways();
        refused(due, some(), NO, "draw(" + ways + ")", lots -> lots.draw(ways));
    }

    static void refusedRankChangesNothing(Due due) {
        refused(due, some(), STATE, "rank()", lots -> lots.rank());
        refused(due, noWay(), NO, "rank()", lots -> lots.rank());
    }

    static void refusedShareChangesNothing(Due due) {
        refused(due, some(), UNKNOWN, "share(5, 0)", lots -> lots.share(5, 0));
        refused(due, some(), UNKNOWN, "share(0, 5)", lots -> lots.share(0, 5));
        refused(due, some(), STATE, "share(3, 0)", lots -> lots.share(3, 0));
    }

    static void refusedKnowsChangesNothing(Due due) {
        refused(due, some(), UNKNOWN, "knows(5)", lots -> lots.knows(5));
        refused(due, some(), STATE, "knows(2)", lots -> lots.knows(2));
    }

    static void refusedSureChangesNothing(Due due) {
        refused(due, some(), UNKNOWN, "sure(5, 0)", lots -> lots.sure(5, 0));
        refused(due, some(), UNKNOWN, "sure(0, 5)", lots -> lots.sure(0, 5));
        refused(due, some(), STATE, "sure(2, 0)", lots -> lots.sure(2, 0));
        refused(due, noWay(), NO, "sure(0, 1)", lots -> lots.sure(0, 1));
    }

    static void refusedFallsChangeNothing(Due due) {
        Map<String, ToIntFunction<GiftLots>> falls = new LinkedHashMap<>();
        falls.put("changes(0)", lots -> lots.changes(0));
        falls.put("mends(0)", lots -> lots.mends(0));
        falls.put("mend(0, 1)", lots -> lots.mend(0, 1));
        falls.forEach((call, asks) -> refused(due, some(), STATE, call, asks));
        falls.forEach((call, asks) -> refused(due, noWay(), NO, call, asks));
        refused(due, some(), UNKNOWN, "changes(5)", lots -> lots.changes(5));
        refused(due, some(), UNKNOWN, "mends(-1)", lots -> lots.mends(-1));
        refused(due, some(), UNKNOWN, "mend(5, 0)", lots -> lots.mend(5, 0));
        refused(due, some(), UNKNOWN, "mend(0, 5)", lots -> lots.mend(0, 5));
        refused(due, some(), UNKNOWN, "mend(2, 2)", lots -> lots.mend(2, 2));
    }

    static void refusedToldChangesNothing(Due due) {
        refused(due, some(), OUTSIDE, "told(4)", lots -> lots.told(4));
        refused(due, some(), OUTSIDE, "told(-1)", lots -> lots.told(-1));
    }

    /** Refused calls lead later answers no other way either. */
    static void refusedCallsLeaveTheAnswers(Due due) {
        Function<GiftLots, String> answers = lots -> ways(lots) + ", " + lots.free() + ", " + lots.rounds(1)
                + ", " + lots.heap() + ", " + lots.rooks(2) + ", " + lots.share(2, 1) + ", " + lots.knows(0)
                + ", " + lots.sure(1, 0) + ", " + lots.both(3, 0);
        GiftLots lots = some();
        String before = answers.apply(lots);
        lots.ones(9);
        lots.may(0, 0, true);
        lots.couple(1, 1);
        lots.least(9);
        lots.way(HIGH, 0);
        lots.both(0, 5);
        lots.rooks(9);
        lots.lay(4, 2);
        lots.draw(HIGH);
        lots.rank();
        lots.share(4, 0);
        lots.knows(4);
        lots.sure(2, 0);
        lots.changes(0);
        lots.mends(0);
        lots.mend(0, 1);
        lots.told(4);
        due.is("the answers", answers.apply(lots), before);
    }

    /** Of those that are not refused, too: only these change anything that change it by their promise. */
    static void callsThatOnlyAskChangeNothing(Due due) {
        GiftLots lots = withHand("12340");
        lots.couple(0, 2);
        lots.least(3);
        String before = state(lots);
        lots.ways();
        lots.free();
        lots.way(1, 0);
        lots.rounds(1);
        lots.both(0, 3);
        lots.rooks(3);
        lots.heap();
        lots.laid(2);
        due.holds("rank() is refused", lots.rank() >= 0);
        lots.share(2, 4);
        lots.knows(3);
        lots.sure(1, 2);
        due.holds("changes(4) is refused", lots.changes(4) > 0);
        lots.mends(3);
        lots.mend(2, 1);
        lots.told(0);
        due.is("the object", state(lots), before);
    }

    // ---- ones, ways and rounds

    static void noOneGivesToItselfInAnyWay(Due due) {
        for (int n = 2; n <= 8; n++) {
            GiftLots lots = drawn(n);
            for (int one = 0; one < n; one++) {
                due.is("both(" + one + ", " + one + ") of " + n, lots.both(one, one), 0);
                due.is("share(" + one + ", " + one + ") of " + n, lots.share(one, one), 0);
            }
        }
    }

    static void eachGivesToOneAndGetsFromOne(Due due) {
        for (int n = 2; n <= 5; n++) {
            GiftLots lots = of(n);
            for (String way : ways(lots).split(" ")) {
                char[] getters = way.toCharArray();
                Arrays.sort(getters);
                due.is("the getters of " + way, new String(getters), "01234".substring(0, n));
            }
        }
    }

    static void waysAreInOrderByTheLesserFirst(Due due) {
        GiftLots lots = of(5);
        String[] ways = ways(lots).split(" ");
        due.is("WAYS", ways.length, 44);
        for (int k = 1; k < ways.length; k++) {
            due.holds(ways[k - 1] + " goes before " + ways[k], ways[k - 1].compareTo(ways[k]) < 0);
        }
    }

    static void waysAreNumberedFromZero(Due due) {
        due.is("WAYS", ways(of(3)), "120 201");
        due.is("way(-1, 0)", of(3).way(-1, 0), NO);
        due.is("way(2, 0)", of(3).way(2, 0), NO);
    }

    static void roundJustAsLongAsLeastIsTaken(Due due) {
        for (int n = 2; n <= 8; n++) {
            GiftLots lots = of(n);
            lots.least(n);
            for (int one = 0; one < n; one++) {
                lots.lay(one, (one + 1) % n);
            }
            due.holds("rank() of a ROUND of " + n, lots.rank() >= 0);
        }
    }

    static void roundOneShorterThanLeastIsNot(Due due) {
        for (int n = 2; n <= 7; n++) {
            GiftLots lots = of(n);
            lots.least(n + 1);
            for (int one = 0; one < n; one++) {
                lots.lay(one, (one + 1) % n);
            }
            due.is("rank() of a ROUND of " + n, lots.rank(), NO);
        }
    }

    static void oneShortRoundAmongLongOnesIsEnough(Due due) {
        GiftLots lots = withHand("10345672");
        due.holds("rank() by LEAST 2", lots.rank() >= 0);
        lots.least(3);
        due.is("rank() by LEAST 3", lots.rank(), NO);
        layAll(lots, "12045673");
        due.holds("rank() of 3 and 5 by LEAST 3", lots.rank() >= 0);
        lots.least(4);
        due.is("rank() of 3 and 5 by LEAST 4", lots.rank(), NO);
        layAll(lots, "12305674");
        due.holds("rank() of 4 and 4 by LEAST 4", lots.rank() >= 0);
        lots.least(5);
        due.is("rank() of 4 and 4 by LEAST 5", lots.rank(), NO);
    }
}
