import java.util.LinkedHashMap;
import java.util.Map;
import java.util.function.ToIntFunction;

/** 'An object is used for at most 512 calls after it has been made': the 512th is answered as any other. */
public final class LastCallTest extends Given {
    private static final int LAST = 512;

    public static void main(String[] args) throws IllegalAccessException {
        Cases.run(LastCallTest.class);
    }

    /** Eight ONES with WAY 0 in the hand, after just so many calls. */
    private static GiftLots after(int calls) {
        GiftLots lots = new GiftLots();
        lots.ones(8);
        lots.draw(0);
        for (int call = 2; call < calls; call++) {
            fill(lots, call);
        }
        return lots;
    }

    /** One call of any kind that leaves the object as it is. */
    private static int fill(GiftLots lots, int call) {
        switch (call % 23) {
            case 0: return lots.ones(9);
            case 1: return lots.may(call % 7, 7, true);
            case 2: return lots.couple(3, 3);
            case 3: return lots.least(2);
            case 4: return lots.ways();
            case 5: return lots.free();
            case 6: return lots.way(call * 29 % 15000, call % 8);
            case 7: return lots.rounds(call % 6);
            case 8: return lots.both(call % 8, call % 5);
            case 9: return lots.rooks(call % 10);
            case 10: return lots.heap();
            case 11: return lots.lay(0, 1);
            case 12: return lots.lay(0, 2);
            case 13: return lots.laid(call % 9);
            case 14: return lots.draw(0);
            case 15: return lots.rank();
            case 16: return lots.share(call % 8, call % 7);
            case 17: return lots.knows(call % 8);
            case 18: return lots.sure(call % 8, call % 7);
            case 19: return lots.changes(call % 8);
            case 20: return lots.mends(call % 8);
            case 21: return lots.mend(call % 8, call % 7);
            default: return lots.told(call % 5);
        }
    }

    private static void last(Due due, String call, int want, ToIntFunction<GiftLots> asks) {
        due.is(call + " as the 512th call", asks.applyAsInt(after(LAST - 1)), want);
        due.is(call + " as the third call", asks.applyAsInt(after(2)), want);
    }

    static void eachCallAsTheLast(Due due) {
        last(due, "ones(2)", 8, lots -> lots.ones(2));
        last(due, "may(0, 7, false)", 1, lots -> lots.may(0, 7, false));
        last(due, "couple(6, 7)", 2, lots -> lots.couple(6, 7));
        last(due, "bar()", 8, lots -> lots.bar());
        last(due, "least(8)", 2, lots -> lots.least(8));
        last(due, "ways()", 14833, lots -> lots.ways());
        last(due, "free()", 14833, lots -> lots.free());
        last(due, "way(14832, 7)", 0, lots -> lots.way(14832, 7));
        last(due, "rounds(4)", 105, lots -> lots.rounds(4));
        last(due, "both(7, 0)", 2119, lots -> lots.both(7, 0));
        last(due, "rooks(8)", 1, lots -> lots.rooks(8));
        last(due, "heap()", 0, lots -> lots.heap());
        last(due, "lay(7, -1)", 6, lots -> lots.lay(7, -1));
        last(due, "laid(7)", 6, lots -> lots.laid(7));
        last(due, "draw(14832)", 1, lots -> lots.draw(14832));
        last(due, "rank()", 0, lots -> lots.rank());
        last(due, "share(0, 7)", 2119, lots -> lots.share(0, 7));
        last(due, "knows(7)", 2119, lots -> lots.knows(7));
        last(due, "sure(7, 7)", 1, lots -> lots.sure(7, 7));
        last(due, "changes(7)", 2, lots -> lots.changes(7));
        last(due, "mends(7)", 6, lots -> lots.mends(7));
        last(due, "mend(7, 6)", 4, lots -> lots.mend(7, 6));
        last(due, "told(2)", 56, lots -> lots.told(2));
    }

    static void eachRefusalAsTheLast(Due due) {
        Map<String, ToIntFunction<GiftLots>> unknown = new LinkedHashMap<>();
        unknown.put("may(8, 0, true)", lots -> lots.may(8, 0, true));
        unknown.put("couple(0, -1)", lots -> lots.couple(0, -1));
        unknown.put("way(0, 8)", lots -> lots.way(0, 8));
        unknown.put("both(0, 8)", lots -> lots.both(0, 8));
        unknown.put("lay(0, 0)", lots -> lots.lay(0, 0));
        unknown.put("laid(8)", lots -> lots.laid(8));
        unknown.put("share(0, 8)", lots -> lots.share(0, 8));
        unknown.put("knows(8)", lots -> lots.knows(8));
        unknown.put("sure(0, 8)", lots -> lots.sure(0, 8));
        unknown.put("changes(8)", lots -> lots.changes(8));
        unknown.put("mends(8)", lots -> lots.mends(8));
        unknown.put("mend(7, 7)", lots -> lots.mend(7, 7));
        unknown.forEach((call, asks) -> last(due, call, UNKNOWN, asks));
        last(due, "ones(9)", OUTSIDE, lots -> lots.ones(9));
        last(due, "least(1)", OUTSIDE, lots -> lots.least(1));
        last(due, "rooks(9)", OUTSIDE, lots -> lots.rooks(9));
        last(due, "told(4)", OUTSIDE, lots -> lots.told(4));
        last(due, "lay(0, 2)", STATE, lots -> lots.lay(0, 2));
        last(due, "may(7, 7, false)", NO, lots -> lots.may(7, 7, false));
        last(due, "couple(7, 7)", NO, lots -> lots.couple(7, 7));
        last(due, "way(14833, 0)", NO, lots -> lots.way(14833, 0));
        last(due, "draw(14833)", NO, lots -> lots.draw(14833));
    }

    static void theObjectIsStillTheSame(Due due) {
        due.is("the object", state(after(LAST - 126)), state(after(2)));
        due.is("the hand", hand(after(LAST - 9)), "10325476");
        due.is("the board", board(after(LAST - 113)), board(of(8)));
    }

    /** The same call again and again, of each kind that then changes nothing more. */
    static void theSameCallUpToTheLast(Due due) {
        Map<String, ToIntFunction<GiftLots>> same = new LinkedHashMap<>();
        same.put("ones(9)", lots -> lots.ones(9));
        same.put("may(0, 2, true)", lots -> lots.may(0, 2, true));
        same.put("couple(2, 2)", lots -> lots.couple(2, 2));
        same.put("least(2)", lots -> lots.least(2));
        same.put("ways()", lots -> lots.ways());
        same.put("free()", lots -> lots.free());
        same.put("way(8, 0)", lots -> lots.way(8, 0));
        same.put("rounds(2)", lots -> lots.rounds(2));
        same.put("both(1, 2)", lots -> lots.both(1, 2));
        same.put("rooks(2)", lots -> lots.rooks(2));
        same.put("heap()", lots -> lots.heap());
        same.put("lay(0, 0)", lots -> lots.lay(0, 0));
        same.put("laid(0)", lots -> lots.laid(0));
        same.put("draw(0)", lots -> lots.draw(0));
        same.put("rank()", lots -> lots.rank());
        same.put("share(0, 1)", lots -> lots.share(0, 1));
        same.put("knows(0)", lots -> lots.knows(0));
        same.put("sure(0, 0)", lots -> lots.sure(0, 0));
        same.put("changes(0)", lots -> lots.changes(0));
        same.put("mends(0)", lots -> lots.mends(0));
        same.put("mend(0, 1)", lots -> lots.mend(0, 1));
        same.put("told(3)", lots -> lots.told(3));
        same.forEach((call, asks) -> sameUpToTheLast(due, call, asks));
        // Only the first of these calls bars; all later ones find the pairs barred.
        barsOnlyAtFirst(due, "couple(0, 1)", 2, lots -> lots.couple(0, 1));
        barsOnlyAtFirst(due, "bar()", 4, lots -> lots.bar());
    }

    /** With a hand, and all 512 alone without one. */
    private static void sameUpToTheLast(Due due, String call, ToIntFunction<GiftLots> asks) {
        for (int drawn = 0; drawn <= 1; drawn++) {
            GiftLots lots = new GiftLots();
            if (drawn == 1) {
                lots.draw(0);
            }
            int want = asks.applyAsInt(lots);
            for (int number = drawn + 2; number <= LAST; number++) {
                due.is(call + " as call " + number, asks.applyAsInt(lots), want);
            }
        }
    }

    private static void barsOnlyAtFirst(Due due, String call, int first, ToIntFunction<GiftLots> bars) {
        GiftLots lots = new GiftLots();
        lots.draw(0);
        for (int number = 2; number <= LAST; number++) {
            due.is(call + " as call " + number, bars.applyAsInt(lots), number == 2 ? first : 0);
        }
    }

    static void changesOfEachKindUpToTheLast(Due due) {
        GiftLots lots = new GiftLots();
        for (int call = 1; call <= LAST; call++) {
            due.is("ones, call " + call, lots.ones(2 + call % 7), call == 1 ? 4 : 2 + (call - 1) % 7);
        }
        lots = new GiftLots();
        for (int call = 1; call <= LAST; call++) {
            due.is("may, call " + call, lots.may(1, 2, call % 2 == 0), call % 2);
        }
        lots = new GiftLots();
        for (int call = 1; call <= LAST; call++) {
            due.is("least, call " + call, lots.least(2 + call % 7), 2 + (call - 1) % 7);
        }
        lots = new GiftLots();
        for (int call = 1; call <= LAST; call++) {
            due.is("lay, call " + call, lots.lay(0, 1 + call % 3), call == 1 ? NONE : 1 + (call - 1) % 3);
        }
        lots = new GiftLots();
        for (int call = 1; call <= LAST; call += 2) {
            due.is("draw, call " + call, lots.draw(call % 9), 1);
            due.is("rank, call " + (call + 1), lots.rank(), call % 9);
        }
    }

    static void dearestCallsUpToTheLast(Due due) {
        GiftLots lots = of(8);
        lots.draw(14832);
        for (int call = 3; call < LAST; call++) {
            int k = call * 29 % 14833;
            due.holds("way(" + k + ", 7), call " + call, lots.way(k, 7) >= 0);
        }
        due.is("rank(), the 512th call", lots.rank(), 14832);
    }
}
