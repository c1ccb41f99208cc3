import java.util.ArrayList;
import java.util.Arrays;
import java.util.List;

/** The document said again in the plainest way: lists of all ways, looked through one by one. */
final class Oracle {
    static final int NONE = -6, UNKNOWN = -1, OUTSIDE = -2, STATE = -3, NO = -5;

    private static final List<List<int[]>> ALL = new ArrayList<>();

    private int n;
    private int least;
    private boolean[][] may;
    private int[] hand;
    /** The ways by board and least, until one of these changes. */
    private List<int[]> known;

    Oracle() {
        begin(4);
    }

    private void begin(int ones) {
        n = ones;
        least = 2;
        may = new boolean[n][n];
        hand = new int[n];
        Arrays.fill(hand, NONE);
        for (int i = 0; i < n; i++) {
            for (int j = 0; j < n; j++) {
                may[i][j] = i != j;
            }
        }
        known = null;
    }

    /** All orders of 0 to n - 1 in which none stands at its own place, the lesser first. */
    private static List<int[]> all(int n) {
        while (ALL.size() <= n) {
            List<int[]> list = new ArrayList<>();
            int ones = ALL.size();
            collect(new int[ones], 0, new boolean[ones], list);
            ALL.add(list);
        }
        return ALL.get(n);
    }

    private static void collect(int[] row, int at, boolean[] taken, List<int[]> list) {
        if (at == row.length) {
            list.add(row.clone());
            return;
        }
        for (int to = 0; to < row.length; to++) {
            if (to != at && !taken[to]) {
                taken[to] = true;
                row[at] = to;
                collect(row, at + 1, taken, list);
                taken[to] = false;
            }
        }
    }

    private boolean byBoard(int[] way) {
        for (int i = 0; i < way.length; i++) {
            if (way[i] >= 0 && !may[i][way[i]]) {
                return false;
            }
        }
        return true;
    }

    /** The lengths of the rounds; those marked below 0 are left out. */
    private static List<Integer> lengths(int[] way) {
        List<Integer> found = new ArrayList<>();
        boolean[] seen = new boolean[way.length];
        for (int i = 0; i < way.length; i++) {
            int length = 0;
            for (int at = i; way[i] >= 0 && !seen[at]; at = way[at]) {
                seen[at] = true;
                length++;
            }
            if (length > 0) {
                found.add(length);
            }
        }
        return found;
    }

    private boolean longEnough(int[] way) {
        for (int length : lengths(way)) {
            if (length < least) {
                return false;
            }
        }
        return true;
    }

    private List<int[]> list() {
        if (known == null) {
            known = new ArrayList<>();
            for (int[] way : all(n)) {
                if (byBoard(way) && longEnough(way)) {
                    known.add(way);
                }
            }
        }
        return known;
    }

    private boolean one(int i) {
        return i >= 0 && i < n;
    }

    int ones(int ones) {
        if (ones < 2 || ones > 8) {
            return OUTSIDE;
        }
        int were = n;
        begin(ones);
        return were;
    }

    int may(int from, int to, boolean is) {
        if (!one(from) || !one(to)) {
            return UNKNOWN;
        }
        if (from == to) {
            return NO;
        }
        int was = may[from][to] ? 1 : 0;
        may[from][to] = is;
        known = null;
        return was;
    }

    int couple(int a, int b) {
        int first = may(a, b, false);
        return first < 0 ? first : first + may(b, a, false);
    }

    int bar() {
        int barred = 0;
        for (int i = 0; i < n; i++) {
            if (hand[i] != NONE) {
                barred += may(i, hand[i], false);
            }
        }
        return barred;
    }

    int least(int length) {
        if (length < 2 || length > 8) {
            return OUTSIDE;
        }
        int was = least;
        least = length;
        known = null;
        return was;
    }

    int ways() {
        return list().size();
    }

    int free() {
        int number = 0;
        for (int[] way : all(n)) {
            number += byBoard(way) ? 1 : 0;
        }
        return number;
    }

    int way(int k, int i) {
        if (!one(i)) {
            return UNKNOWN;
        }
        return k < 0 || k >= list().size() ? NO : list().get(k)[i];
    }

    int rounds(int number) {
        int found = 0;
        for (int[] way : list()) {
            found += lengths(way).size() == number ? 1 : 0;
        }
        return found;
    }

    int both(int from, int to) {
        if (!one(from) || !one(to)) {
            return UNKNOWN;
        }
        int found = 0;
        for (int[] way : list()) {
            found += way[from] == to ? 1 : 0;
        }
        return found;
    }

    int rooks(int k) {
        return k < 0 || k > 8 ? OUTSIDE : rooksFrom(0, k, new boolean[n]);
    }

    private int rooksFrom(int giver, int left, boolean[] taken) {
        if (left == 0) {
            return 1;
        }
        if (giver == n) {
            return 0;
        }
        int found = rooksFrom(giver + 1, left, taken);
        for (int to = 0; to < n; to++) {
            if (!may[giver][to] && !taken[to]) {
                taken[to] = true;
                found += rooksFrom(giver + 1, left - 1, taken);
                taken[to] = false;
            }
        }
        return found;
    }

    int heap() {
        for (int size = 1; size <= n; size++) {
            int found = heapOf(0, size, new ArrayList<>());
            if (found != 0) {
                return found;
            }
        }
        return 0;
    }

    /** Goes through the choices of so many numbers in order, the lesser first. */
    private int heapOf(int from, int left, List<Integer> chosen) {
        if (left == 0) {
            boolean[] got = new boolean[n];
            int getters = 0;
            int bits = 0;
            for (int i : chosen) {
                bits += 1 << i;
                for (int j = 0; j < n; j++) {
                    if (may[i][j] && !got[j]) {
                        got[j] = true;
                        getters++;
                    }
                }
            }
            return getters < chosen.size() ? bits : 0;
        }
        for (int i = from; i < n; i++) {
            chosen.add(i);
            int found = heapOf(i + 1, left - 1, chosen);
            chosen.remove(chosen.size() - 1);
            if (found != 0) {
                return found;
            }
        }
        return 0;
    }

    int lay(int from, int to) {
        if (!one(from) || (to != -1 && !one(to)) || from == to) {
            return UNKNOWN;
        }
        for (int i = 0; i < n; i++) {
            if (to >= 0 && i != from && hand[i] == to) {
                return STATE;
            }
        }
        int did = hand[from];
        hand[from] = to < 0 ? NONE : to;
        return did;
    }

    int laid(int i) {
        return one(i) ? hand[i] : UNKNOWN;
    }

    int draw(int k) {
        if (k < 0 || k >= list().size()) {
            return NO;
        }
        hand = list().get(k).clone();
        return 1;
    }

    int rank() {
        for (int to : hand) {
            if (to == NONE) {
                return STATE;
            }
        }
        for (int k = 0; k < list().size(); k++) {
            if (Arrays.equals(hand, list().get(k))) {
                return k;
            }
        }
        return NO;
    }

    int share(int i, int j) {
        if (!one(i) || !one(j)) {
            return UNKNOWN;
        }
        for (int lower = 0; lower < i; lower++) {
            if (hand[lower] == NONE) {
                return STATE;
            }
        }
        int found = 0;
        for (int[] way : list()) {
            boolean agrees = way[i] == j;
            for (int lower = 0; lower < i; lower++) {
                agrees &= way[lower] == hand[lower];
            }
            found += agrees ? 1 : 0;
        }
        return found;
    }

    int knows(int i) {
        if (!one(i)) {
            return UNKNOWN;
        }
        return hand[i] == NONE ? STATE : both(i, hand[i]);
    }

    int sure(int i, int other) {
        if (!one(i) || !one(other)) {
            return UNKNOWN;
        }
        if (hand[i] == NONE) {
            return STATE;
        }
        boolean[] got = new boolean[n];
        int different = 0;
        for (int[] way : list()) {
            if (way[i] == hand[i] && !got[way[other]]) {
                got[way[other]] = true;
                different++;
            }
        }
        return different == 0 ? NO : different == 1 ? 1 : 0;
    }

    private int refuses(int x) {
        if (!one(x)) {
            return UNKNOWN;
        }
        int rank = rank();
        return rank < 0 ? rank : 0;
    }

    /** All mends when x falls out, in order; x itself is marked by NONE. */
    private List<int[]> mendList(int x) {
        List<int[]> found = new ArrayList<>();
        for (int[] few : all(n - 1)) {
            int[] mend = new int[n];
            for (int i = 0; i < n; i++) {
                int own = i < x ? i : i - 1;
                mend[i] = i == x ? NONE : few[own] < x ? few[own] : few[own] + 1;
            }
            if (byBoard(mend) && longEnough(mend)) {
                found.add(mend);
            }
        }
        return found;
    }

    private int changesOf(int[] mend) {
        int number = 0;
        for (int i = 0; i < n; i++) {
            number += mend[i] != NONE && mend[i] != hand[i] ? 1 : 0;
        }
        return number;
    }

    private List<int[]> fewest(int x) {
        List<int[]> best = new ArrayList<>();
        for (int[] mend : mendList(x)) {
            if (!best.isEmpty() && changesOf(mend) < changesOf(best.get(0))) {
                best.clear();
            }
            if (best.isEmpty() || changesOf(mend) == changesOf(best.get(0))) {
                best.add(mend);
            }
        }
        return best;
    }

    int changes(int x) {
        if (refuses(x) < 0) {
            return refuses(x);
        }
        List<int[]> best = fewest(x);
        return best.isEmpty() ? NONE : changesOf(best.get(0));
    }

    int mends(int x) {
        return refuses(x) < 0 ? refuses(x) : fewest(x).size();
    }

    int mend(int x, int i) {
        if (!one(x) || !one(i) || x == i) {
            return UNKNOWN;
        }
        if (refuses(x) < 0) {
            return refuses(x);
        }
        List<int[]> best = fewest(x);
        return best.isEmpty() ? NONE : best.get(0)[i];
    }

    int told(int what) {
        int number = 0;
        switch (what) {
            case 0:
                return n;
            case 1:
                return least;
            case 2:
                for (boolean[] row : may) {
                    for (boolean is : row) {
                        number += is ? 1 : 0;
                    }
                }
                return number;
            case 3:
                for (int to : hand) {
                    number += to != NONE ? 1 : 0;
                }
                return number;
            default:
                return OUTSIDE;
        }
    }
}
