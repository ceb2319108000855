import java.util.ArrayList;
import java.util.List;

/** The document once more, by walking and trying out where the class reckons: slow, and written apart from it. */
final class Model {
    /** What the model does not tell, because the walk would be too long. */
    static final long UNTOLD = Long.MIN_VALUE;

    /** What an image keeps. */
    private static final class State {
        int[] measure = {36, 30, 45};
        int counting = 3;
        int law = 0;
        int seam = 2;
        int sold = 0;
        List<int[]> bolts = new ArrayList<>();
        List<Integer> buyers = new ArrayList<>();
        int[][] above = new int[4][4];
        int[][] below = new int[4][4];

        State copied() {
            State s = new State();
            s.measure = measure.clone();
            s.counting = counting;
            s.law = law;
            s.seam = seam;
            s.sold = sold;
            for (int[] bolt : bolts) {
                s.bolts.add(bolt.clone());
            }
            s.buyers.addAll(buyers);
            for (int c = 0; c < 4; c++) {
                s.above[c] = above[c].clone();
                s.below[c] = below[c].clone();
            }
            return s;
        }
    }

    private State now = new State();
    private State kept = null;
    private String tape = "";
    private final long[][] rows = new long[4][];
    private final int[] lanes = new int[4];

    Model() {
        for (int c = 0; c < 4; c++) {
            java.util.Arrays.fill(now.above[c], 1);
            java.util.Arrays.fill(now.below[c], 1);
        }
    }

    private static boolean out(long v, long least, long most) {
        return v < least || v > most;
    }

    // ---- places

    /** The ways in which marks can meet: lists of measures that are to be whole all together. */
    private static List<int[]> ways(int[] measure, int counting, int law) {
        List<Integer> in = new ArrayList<>();
        for (int t = 0; t < 3; t++) {
            if ((counting & 1 << t) != 0) {
                in.add(measure[t]);
            }
        }
        List<int[]> ways = new ArrayList<>();
        if (law == 0) {
            ways.add(in.stream().mapToInt(v -> v).toArray());
            return ways;
        }
        for (int a = 0; a < in.size(); a++) {
            for (int b = a + 1; b < in.size(); b++) {
                ways.add(new int[] {in.get(a), in.get(b)});
            }
        }
        return ways;
    }

    private List<int[]> ways() {
        return ways(now.measure, now.counting, now.law);
    }

    private static boolean whole(long length, int[] way) {
        for (int m : way) {
            if (length % m != 0) {
                return false;
            }
        }
        return true;
    }

    private static int widest(int[] way) {
        int w = 1;
        for (int m : way) {
            w = Math.max(w, m);
        }
        return w;
    }

    private static long lastTo(List<int[]> ways, long length) {
        long last = 0;
        for (int[] way : ways) {
            int step = widest(way);
            long p = length - length % step;
            while (p > 0 && !whole(p, way)) {
                p -= step;
            }
            last = Math.max(last, p);
        }
        return last;
    }

    private static long firstFrom(List<int[]> ways, long length) {
        long first = Long.MAX_VALUE;
        for (int[] way : ways) {
            int step = widest(way);
            long p = length % step == 0 ? length : length - length % step + step;
            while (!whole(p, way)) {
                p += step;
            }
            first = Math.min(first, p);
        }
        return first;
    }

    private static long walked(List<int[]> ways, long length) {
        long many = 0;
        for (long p = firstFrom(ways, 1); p <= length; p = firstFrom(ways, p + 1)) {
            many++;
        }
        return many;
    }

    private int waste(List<int[]> ways) {
        int waste = 0;
        for (int[] bolt : now.bolts) {
            waste += bolt[1] - (int) lastTo(ways, bolt[1]);
        }
        return waste;
    }

    // ---- 1 towns, bolts

    long measure(int town, int v) {
        if (out(town, 0, 2) || out(v, 1, 999)) {
            return -1;
        }
        int was = now.measure[town];
        now.measure[town] = v;
        return was;
    }

    long rule(int set, int law) {
        if (set != 3 && set != 5 && set != 6 && set != 7 || out(law, 0, 1)) {
            return -1;
        }
        int was = now.counting * 10 + now.law;
        now.counting = set;
        now.law = law;
        return was;
    }

    long seam(int v) {
        if (out(v, 0, 99)) {
            return -1;
        }
        int was = now.seam;
        now.seam = v;
        return was;
    }

    long place(int i) {
        if (out(i, 1, 999999)) {
            return -1;
        }
        if (i > 500) {
            return UNTOLD;
        }
        long p = 0;
        for (int k = 0; k < i; k++) {
            p = firstFrom(ways(), p + 1);
        }
        return p;
    }

    long places(long length) {
        if (out(length, 0, 1000000000000000L)) {
            return -1;
        }
        if (length < 20000) {
            return walked(ways(), length);
        }
        long period = (long) now.measure[0] * now.measure[1] * now.measure[2];
        if (period > 30000) {
            return UNTOLD;
        }
        return length / period * walked(ways(), period) + walked(ways(), length % period);
    }

    long bolt(int cloth, int length) {
        if (out(cloth, 0, 3) || out(length, 1, 99999)) {
            return -1;
        }
        if (now.bolts.size() == 8) {
            return -3;
        }
        now.bolts.add(new int[] {cloth, length});
        return now.bolts.size() - 1;
    }

    long told(int bolt, int what) {
        if (out(bolt, 0, now.bolts.size() - 1) || out(what, 0, 2)) {
            return -1;
        }
        return what < 2 ? now.bolts.get(bolt)[what] : lastTo(ways(), now.bolts.get(bolt)[1]);
    }

    long cut(int bolt, int length) {
        if (out(bolt, 0, now.bolts.size() - 1)) {
            return -1;
        }
        int[] b = now.bolts.get(bolt);
        boolean isPlace = false;
        for (int[] way : ways()) {
            isPlace |= length > 0 && whole(length, way);
        }
        if (!isPlace || length > b[1]) {
            return -2;
        }
        now.sold += length;
        b[1] -= length;
        if ((b[0] == 1 || b[0] == 3) && b[1] > 0) {
            b[1]--;
        }
        return b[1];
    }

    long join(int a, int b) {
        int last = now.bolts.size() - 1;
        if (out(a, 0, last) || out(b, 0, last) || a == b) {
            return -1;
        }
        int[] first = now.bolts.get(a);
        int[] second = now.bolts.get(b);
        if (first[0] != second[0] || first[1] == 0 || second[1] == 0) {
            return -2;
        }
        int length = Math.max(0, first[1] + second[1] - (first[0] < 2 ? now.seam : 0));
        if (length > 99999) {
            return -3;
        }
        first[1] = length;
        second[1] = 0;
        return length;
    }

    long type(long w, int n) {
        if (out(n, 1, 8)) {
            return -1;
        }
        String text = "";
        for (int k = 0; k < n; k++) {
            int sign = (int) (w & 255);
            w >>= 8;
            if (out(sign, 32, 126)) {
                return -1;
            }
            text = (char) sign + text;
        }
        if (tape.length() + n > 40) {
            return -3;
        }
        tape += text;
        return tape.length();
    }

    long towns() {
        String text = tape;
        tape = "";
        List<String> tokens = new ArrayList<>();
        List<Integer> from = new ArrayList<>();
        tokens(text, tokens, from);
        int[] measure = new int[3];
        String counted = "";
        boolean two = false;
        int t = 0;
        for (; t < 5; t++) {
            String token = tokens.get(t);
            if (t % 2 == 1 ? !token.equals(",") : !isNumber(token)) {
                return -20 - from.get(t);
            }
            if (t % 2 == 0) {
                measure[t / 2] = new java.math.BigInteger(token).intValue();
            }
        }
        if (tokens.get(t).equals(";")) {
            t++;
            while (tokens.get(t).matches("[0-2]") && !counted.contains(tokens.get(t))) {
                counted += tokens.get(t++);
            }
            if (counted.length() < 2) {
                return -20 - from.get(t);
            }
        }
        if (tokens.get(t).equals("t")) {
            two = true;
            t++;
        }
        if (!tokens.get(t).isEmpty()) {
            return -20 - from.get(t);
        }
        now.measure = measure;
        now.law = two ? 1 : 0;
        now.counting = 0;
        for (char c : (counted.isEmpty() ? "01" : counted).toCharArray()) {
            now.counting |= 1 << c - '0';
        }
        return Integer.bitCount(now.counting);
    }

    private static boolean isNumber(String token) {
        return token.matches("[0-9]+") && token.matches("0*[1-9][0-9]{0,2}");
    }

    /** Numbers, single signs (behind ; digits, too), and an empty one for the end. */
    private static void tokens(String text, List<String> tokens, List<Integer> from) {
        int i = 0;
        boolean single = false;
        while (i < text.length()) {
            int start = i++;
            char c = text.charAt(start);
            if (c == ' ') {
                continue;
            }
            while (!single && Character.isDigit(c) && i < text.length() && Character.isDigit(text.charAt(i))) {
                i++;
            }
            single |= c == ';';
            tokens.add(text.substring(start, i));
            from.add(start);
        }
        for (int k = 0; k < 12; k++) {
            tokens.add("");
            from.add(text.length());
        }
    }

    long count(int what) {
        int inches = now.bolts.stream().mapToInt(b -> b[1]).sum();
        int wanted = now.buyers.stream().mapToInt(b -> b).sum();
        if (out(what, 0, 5)) {
            return -1;
        }
        int waste = what == 5 ? waste(ways()) : 0;
        return new int[] {now.bolts.size(), inches, now.sold, now.buyers.size(), wanted, waste}[what];
    }

    // ---- 2 most, parties

    /** What a grouping is worth; the better of two is the one with the greater worth, the more groups, the lesser row. */
    private static final class Best {
        long worth;
        int groups = -1;
        int[] row;

        void offer(long newWorth, int newGroups, int[] newRow) {
            boolean better = groups < 0 || newWorth > worth || newWorth == worth && newGroups > groups;
            boolean like = groups >= 0 && newWorth == worth && newGroups == groups;
            if (better || like && java.util.Arrays.compare(newRow, row) < 0) {
                worth = newWorth;
                groups = newGroups;
                row = newRow.clone();
            }
        }
    }

    /** Tries groups from the last to the first, so that the order of trying can't be what makes a row the first. */
    private static void tryAll(int[] row, int at, int groups, long[] worths, int largest, Best best) {
        if (at == row.length) {
            int[] sets = new int[groups];
            for (int i = 0; i < row.length; i++) {
                sets[row[i]] |= 1 << i;
            }
            long worth = 0;
            for (int set : sets) {
                if (Integer.bitCount(set) > largest) {
                    return;
                }
                worth += worths[set];
            }
            best.offer(worth, groups, row);
            return;
        }
        for (int g = groups; g >= 0; g--) {
            row[at] = g;
            tryAll(row, at + 1, Math.max(groups, g + 1), worths, largest, best);
        }
    }

    long most(int cloth, int i) {
        if (out(cloth, 0, 3) || out(i, -1, 7)) {
            return -1;
        }
        List<Integer> lengths = new ArrayList<>();
        for (int[] bolt : now.bolts) {
            if (bolt[0] == cloth && bolt[1] > 0) {
                lengths.add(bolt[1]);
            }
        }
        long[] worths = new long[1 << lengths.size()];
        for (int set = 1; set < worths.length; set++) {
            long length = 0;
            int seams = -1;
            for (int b = 0; b < lengths.size(); b++) {
                if ((set & 1 << b) != 0) {
                    length += lengths.get(b);
                    seams++;
                }
            }
            length -= cloth < 2 ? seams * now.seam : 0;
            worths[set] = length <= 0 ? 0 : lastTo(ways(), length);
        }
        Best best = new Best();
        tryAll(new int[lengths.size()], 0, 0, worths, 8, best);
        if (i == -1) {
            return best.worth;
        }
        return i < lengths.size() ? best.row[i] : -4;
    }

    long buyer(int wants) {
        if (out(wants, 1, 9999)) {
            return -1;
        }
        if (now.buyers.size() == 6) {
            return -3;
        }
        now.buyers.add(wants);
        return now.buyers.size() - 1;
    }

    long home() {
        int went = now.buyers.size();
        now.buyers.clear();
        return went;
    }

    private long priceOf(int set) {
        long wanted = 0;
        for (int b = 0; b < now.buyers.size(); b++) {
            wanted += (set & 1 << b) != 0 ? now.buyers.get(b) : 0;
        }
        return firstFrom(ways(), wanted);
    }

    long price(int set) {
        return out(set, 1, (1 << now.buyers.size()) - 1) ? -1 : priceOf(set);
    }

    long parties(int k, int i) {
        if (out(k, 1, 6) || out(i, -1, 5)) {
            return -1;
        }
        int buyers = now.buyers.size();
        if (buyers == 0 || i >= buyers) {
            return -4;
        }
        long[] worths = new long[1 << buyers];
        for (int set = 1; set < worths.length; set++) {
            worths[set] = -priceOf(set);
        }
        Best best = new Best();
        tryAll(new int[buyers], 0, 0, worths, k, best);
        return i == -1 ? -best.worth : best.row[i];
    }

    // ---- 3 measures, coins

    long third(int what) {
        if (out(what, 0, 1)) {
            return -1;
        }
        int[] best = null;
        for (int v = 99; v >= 1; v--) {
            int waste = waste(ways(new int[] {now.measure[0], now.measure[1], v}, 7, 1));
            if (best == null || waste <= best[1]) {
                best = new int[] {v, waste};
            }
        }
        return best[what];
    }

    long worn(int s) {
        int a = now.measure[0];
        int b = now.measure[1];
        if (out(s, 0, 9) || s >= a || s >= b) {
            return -1;
        }
        for (int j = 1; j <= 9999; j++) {
            for (int p = j * (a - s); p <= j * a; p++) {
                for (int k = 1; k * (b - s) <= p; k++) {
                    if (p <= k * b) {
                        return j;
                    }
                }
            }
        }
        return -4;
    }

    long rate(int from, int to, int above, int below) {
        if (out(from, 0, 3) || out(to, 0, 3) || from == to || out(above, 1, 99) || out(below, 1, 99)) {
            return -1;
        }
        int was = 100 * now.above[from][to] + now.below[from][to];
        now.above[from][to] = above;
        now.below[from][to] = below;
        return was;
    }

    private void ringsOn(List<Integer> ring, List<Long> gaining) {
        if (ring.size() > 1) {
            long above = 1;
            long below = 1;
            long name = 0;
            for (int i = 0; i < ring.size(); i++) {
                int from = ring.get(i);
                int to = ring.get((i + 1) % ring.size());
                above *= now.above[from][to];
                below *= now.below[from][to];
                name = name * 10 + from + 1;
            }
            if (above > below) {
                gaining.add(name);
            }
        }
        for (int next = ring.get(0) + 1; next < 4; next++) {
            if (!ring.contains(next)) {
                ring.add(next);
                ringsOn(ring, gaining);
                ring.remove(ring.size() - 1);
            }
        }
    }

    long rings(int what) {
        if (out(what, 0, 1)) {
            return -1;
        }
        List<Long> gaining = new ArrayList<>();
        for (int coin = 0; coin < 4; coin++) {
            List<Integer> ring = new ArrayList<>();
            ring.add(coin);
            ringsOn(ring, gaining);
        }
        // a name with fewer digits is less, and of as many the first row is the least
        return what == 0 ? gaining.size() : gaining.stream().mapToLong(v -> v).min().orElse(-4);
    }

    private void turnOn(int home, int at, long n, List<Integer> row, int left, Object[] best) {
        if (left == 0) {
            if (at == home && (best[0] == null || n > (Long) best[0])) {
                best[0] = n;
                best[1] = new ArrayList<>(row);
            }
            return;
        }
        for (int to = 0; to < 4; to++) {
            if (to != at) {
                row.add(to);
                turnOn(home, to, n * now.above[at][to] / now.below[at][to], row, left - 1, best);
                row.remove(row.size() - 1);
            }
        }
    }

    long turn(int coin, int n, int k, int i) {
        if (out(coin, 0, 3) || out(n, 0, 999999) || out(k, 1, 5) || out(i, -1, k - 1)) {
            return -1;
        }
        Object[] best = new Object[2];
        turnOn(coin, coin, n, new ArrayList<>(), k, best);
        if (best[0] == null) {
            return -4;
        }
        return i == -1 ? (Long) best[0] : (Integer) ((List<?>) best[1]).get(i);
    }

    long image() {
        kept = now.copied();
        return 1;
    }

    long restore() {
        if (kept == null) {
            return -4;
        }
        now = kept.copied();
        return 1;
    }

    // ---- 4 sheets

    private long refused(int sheet, int lane, int i, int n) {
        if (out(sheet, 0, 3) || out(lane, 0, 2)) {
            return -1;
        }
        if (rows[sheet] == null) {
            return -11;
        }
        if (lanes[sheet] != lane) {
            return -12;
        }
        return i < 0 || (long) i + n > rows[sheet].length ? -13 : 0;
    }

    long leaves(int sheet, int lane, int i) {
        int buyers = now.buyers.size();
        long refused = refused(sheet, lane, i, buyers);
        if (refused < 0) {
            return refused;
        }
        for (int b = 0; b < buyers; b++) {
            if (out(rows[sheet][i + b], 0, 9999999)) {
                return -2;
            }
        }
        for (int set = 1; set < 1 << buyers; set++) {
            long shares = 0;
            for (int b = 0; b < buyers; b++) {
                shares += (set & 1 << b) != 0 ? rows[sheet][i + b] : 0;
            }
            if (shares > priceOf(set)) {
                return set;
            }
        }
        return buyers == 0 ? -2 : -4;
    }

    long fit(int sheet, int lane, int i, int n, int what) {
        if (out(n, 1, 8) || out(what, 0, 1)) {
            return -1;
        }
        long refused = refused(sheet, lane, i, n);
        if (refused < 0) {
            return refused;
        }
        long pairs = 0;
        long best = -4;
        int greatest = 0;
        for (int k = 0; k < n; k++) {
            if (out(rows[sheet][i + k], 1, 999999)) {
                return -2;
            }
        }
        for (int a = 2; a <= 60; a++) {
            for (int b = a + 1; b <= 60; b++) {
                boolean all = true;
                for (int k = 0; k < n; k++) {
                    all &= whole(rows[sheet][i + k], new int[] {a, b});
                }
                int common = b;
                while (common % a != 0) {
                    common += b;
                }
                pairs += all ? 1 : 0;
                if (all && common > greatest) {
                    greatest = common;
                    best = a * 100 + b;
                }
            }
        }
        return what == 0 ? pairs : best;
    }

    private static long shortened(int lane, long v) {
        int bits = new int[] {48, 32, 0}[lane];
        return v << bits >> bits;
    }

    long film(int sheet, int lane, int i) {
        long refused = refused(sheet, lane, i, now.bolts.size());
        if (refused < 0) {
            return refused;
        }
        for (int b = 0; b < now.bolts.size(); b++) {
            rows[sheet][i + b] = shortened(lane, now.bolts.get(b)[1]);
        }
        return now.bolts.size();
    }

    long sheet(int sheet, int lane, int n) {
        if (out(sheet, 0, 3) || out(lane, 0, 2) || n > 16) {
            return -1;
        }
        if (n < 0) {
            return -14;
        }
        rows[sheet] = new long[n];
        lanes[sheet] = lane;
        return n;
    }

    long drop(int sheet) {
        if (out(sheet, 0, 3)) {
            return -1;
        }
        if (rows[sheet] == null) {
            return -11;
        }
        int had = rows[sheet].length;
        rows[sheet] = null;
        return had;
    }

    long item(int sheet, int lane, int i, long v) {
        long refused = refused(sheet, lane, i, 1);
        if (refused < 0) {
            return refused;
        }
        rows[sheet][i] = shortened(lane, v);
        return 1;
    }

    long copy(int from, int i, int to, int j, int n) {
        if (out(from, 0, 3) || out(to, 0, 3)) {
            return -1;
        }
        if (rows[from] == null || rows[to] == null) {
            return -11;
        }
        if (lanes[from] != lanes[to]) {
            return -12;
        }
        boolean short1 = i < 0 || (long) i + n > rows[from].length;
        boolean short2 = j < 0 || (long) j + n > rows[to].length;
        if (n < 0 || short1 || short2) {
            return -13;
        }
        long[] taken = java.util.Arrays.copyOfRange(rows[from], i, i + n);
        for (int k = 0; k < n; k++) {
            rows[to][j + k] = taken[k];
        }
        return n;
    }
}
