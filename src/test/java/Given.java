/**
 * Makes objects for the tests that extend it, and tells of them as texts: a figure for a ONE, a dash
 * for none.
 */
abstract class Given {
    static final int NONE = -6, UNKNOWN = -1, OUTSIDE = -2, STATE = -3, NO = -5;
    static final int LOW = Integer.MIN_VALUE, HIGH = Integer.MAX_VALUE;
    /** The numbers of WAYS on a free board, by the number of ONES. */
    static final int[] FREE_WAYS = {1, 0, 1, 2, 9, 44, 265, 1854, 14833};

    /** Numbers far outside, such as a byte, a shift or the sign would take for a ONE. */
    static final int[] FAR = {-2, -6, -8, -31, -32, -255, 16, 31, 32, 33, 34, 64, 256, 257, 65536, LOW, LOW + 1, HIGH};

    static GiftLots of(int n) {
        GiftLots lots = new GiftLots();
        lots.ones(n);
        return lots;
    }

    static GiftLots withHand(String hand) {
        GiftLots lots = of(hand.length());
        layAll(lots, hand);
        return lots;
    }

    /** As many ONES as rows; each may give to those in its row. */
    static GiftLots withBoard(String... rows) {
        GiftLots lots = of(rows.length);
        for (int from = 0; from < rows.length; from++) {
            only(lots, from, rows[from]);
        }
        return lots;
    }

    static void layAll(GiftLots lots, String hand) {
        for (int one = 0; one < hand.length(); one++) {
            lots.lay(one, -1);
        }
        for (int one = 0; one < hand.length(); one++) {
            if (hand.charAt(one) != '-') {
                lots.lay(one, hand.charAt(one) - '0');
            }
        }
    }

    /** The giver may give to just these. */
    static void only(GiftLots lots, int from, String getters) {
        int n = lots.told(0);
        for (int to = 0; to < n; to++) {
            if (to != from) {
                lots.may(from, to, getters.indexOf('0' + to) >= 0);
            }
        }
    }

    static String hand(GiftLots lots) {
        StringBuilder text = new StringBuilder();
        int n = lots.told(0);
        for (int one = 0; one < n; one++) {
            text.append(figure(lots.laid(one), NONE));
        }
        return text.toString();
    }

    static String board(GiftLots lots) {
        StringBuilder text = new StringBuilder();
        int n = lots.told(0);
        for (int from = 0; from < n; from++) {
            text.append(from == 0 ? "" : " ");
            for (int to = 0; to < n; to++) {
                text.append(from != to && asksMay(lots, from, to) ? String.valueOf(to) : "");
            }
        }
        return text.toString();
    }

    /** There is no call that only asks, so the pair is put back. */
    private static boolean asksMay(GiftLots lots, int from, int to) {
        boolean might = lots.may(from, to, true) == 1;
        lots.may(from, to, might);
        return might;
    }

    static String way(GiftLots lots, int k) {
        StringBuilder text = new StringBuilder();
        int n = lots.told(0);
        for (int one = 0; one < n; one++) {
            text.append(figure(lots.way(k, one), NO));
        }
        return text.toString();
    }

    static String ways(GiftLots lots) {
        StringBuilder text = new StringBuilder();
        int ways = lots.ways();
        for (int k = 0; k < ways; k++) {
            text.append(k == 0 ? "" : " ").append(way(lots, k));
        }
        return text.toString();
    }

    static String mend(GiftLots lots, int x) {
        StringBuilder text = new StringBuilder();
        int n = lots.told(0);
        for (int one = 0; one < n; one++) {
            text.append(figure(lots.mend(x, one), one == x ? UNKNOWN : NONE));
        }
        return text.toString();
    }

    private static String figure(int answer, int dash) {
        return answer == dash ? "-" : answer >= 0 && answer < 8 ? String.valueOf(answer) : "(" + answer + ")";
    }

    /** All that an object holds by the document. */
    static String state(GiftLots lots) {
        return lots.told(0) + " ONES, LEAST " + lots.told(1) + ", " + lots.told(2) + " pairs: " + board(lots)
                + ", " + lots.told(3) + " give: " + hand(lots);
    }
}
