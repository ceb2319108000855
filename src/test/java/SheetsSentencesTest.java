/** Each sentence with a boundary case in promises 26 to 32, and in the terms that they stand on. */
public final class SheetsSentencesTest extends Sentences {
    private static final int[] NO_SHEETS = {-1, 4, 5, MIN, MAX};
    private static final int[] NO_LANES = {-1, 3, 4, MIN, MAX};

    public static void main(String[] args) {
        leavesRefused();
        leavesIndex();
        leavesNot();
        leavesWho();
        fitRefused();
        fitIndex();
        fitLengths();
        fitPairs();
        fitBest();
        filmRefused();
        filmItems();
        sheetBounds();
        sheetNewRow();
        drop();
        itemRefused();
        itemBits();
        copyRefused();
        copyIndex();
        copyItems();
        tellAndExit();
    }

    // ---- leaves

    private static void leavesRefused() {
        WholeMarks x = withBuyers(5, 5);
        fill(x, 0, INTS, 200, 0);
        says("Promise 26", "BAD: SHEETS 0 .. 3, a LANE 0 .. 2");
        for (int no : NO_SHEETS) {
            due("leaves(" + no + ", 1, 0)", x.leaves(no, INTS, 0), -1);
        }
        for (int no : NO_LANES) {
            due("leaves(0, " + no + ", 0)", x.leaves(0, no, 0), -1);
        }
        says("Promise 26", "NULL: a SHEET that holds nothing");
        for (int lane = 0; lane < 3; lane++) {
            for (int s = 1; s < 4; s++) {
                due("leaves(" + s + ", " + lane + ", 0)", x.leaves(s, lane, 0), -11);
            }
        }
        says("Promise 26", "CAST: of another LANE");
        for (int held = 0; held < 3; held++) {
            for (int lane = 0; lane < 3; lane++) {
                fill(x, 3, held, 200, 0);
                due("leaves(3, " + lane + ", 0) of LANE " + held, x.leaves(3, lane, 0), lane == held ? 1 : -12);
            }
        }
        says("Promise 26", "BAD is ahead of NULL, CAST, INDEX, NOT");
        due("leaves(1, 3, 0) of nothing", x.leaves(1, 3, 0), -1);
        due("leaves(0, 3, -1)", x.leaves(0, 3, -1), -1);
        due("leaves(4, 0, 99)", x.leaves(4, SHORTS, 99), -1);
        due("leaves(4, 0, 0) of nobody", new WholeMarks().leaves(4, SHORTS, 0), -1);
        says("Terms", "NULL, CAST, INDEX in this order; all of them ahead of NOT");
        due("leaves(1, 1, -1) of nothing", x.leaves(1, INTS, -1), -11);
        due("leaves(0, 2, -1) of ints", x.leaves(0, LONGS, -1), -12);
        x.home();
        due("leaves(1, 1, 0) of nobody", x.leaves(1, INTS, 0), -11);
        due("leaves(0, 2, 0) of nobody", x.leaves(0, LONGS, 0), -12);
        due("leaves(0, 1, 3) of nobody", x.leaves(0, INTS, 3), -13);
        x.buyer(5);
        x.item(0, INTS, 1, -1);
        due("leaves(0, 1, 2) behind a share below 0", x.leaves(0, INTS, 2), -13);
        x.buyer(5);
        due("leaves(0, 1, 1) of a share below 0 and one too few", x.leaves(0, INTS, 1), -13);
    }

    private static void leavesIndex() {
        says("Promise 26", "INDEX: one item for each BUYER, from item i on: just inside and just outside");
        for (int buyers = 1; buyers <= 6; buyers++) {
            WholeMarks x = new WholeMarks();
            for (int b = 0; b < buyers; b++) {
                x.buyer(1);
            }
            x.sheet(0, INTS, 16);
            x.sheet(1, LONGS, buyers);
            x.sheet(2, SHORTS, buyers - 1);
            due("leaves(0, 1, 0) of " + buyers, x.leaves(0, INTS, 0), -4);
            due("leaves(0, 1, last) of " + buyers, x.leaves(0, INTS, 16 - buyers), -4);
            due("leaves(0, 1, behind the last) of " + buyers, x.leaves(0, INTS, 17 - buyers), -13);
            due("leaves(0, 1, 16) of " + buyers, x.leaves(0, INTS, 16), -13);
            due("leaves(0, 1, -1) of " + buyers, x.leaves(0, INTS, -1), -13);
            due("leaves(0, 1, MAX) of " + buyers, x.leaves(0, INTS, MAX), -13);
            due("leaves(0, 1, MAX less buyers) of " + buyers, x.leaves(0, INTS, MAX - buyers + 1), -13);
            due("leaves(0, 1, MIN) of " + buyers, x.leaves(0, INTS, MIN), -13);
            due("leaves(1, 2, 0) of as many", x.leaves(1, LONGS, 0), -4);
            due("leaves(1, 2, 1) of as many", x.leaves(1, LONGS, 1), -13);
            due("leaves(2, 0, 0) of one too few", x.leaves(2, SHORTS, 0), -13);
        }
        says("Terms", "INDEX also where no item is taken, if i is below 0, or above how many there are");
        WholeMarks x = new WholeMarks();
        x.sheet(0, INTS, 3);
        x.sheet(1, INTS, 0);
        due("leaves(0, 1, 3) of nobody", x.leaves(0, INTS, 3), -2);
        due("leaves(0, 1, 4) of nobody", x.leaves(0, INTS, 4), -13);
        due("leaves(0, 1, -1) of nobody", x.leaves(0, INTS, -1), -13);
        due("leaves(1, 1, 0) of nobody", x.leaves(1, INTS, 0), -2);
        due("leaves(1, 1, 1) of nobody", x.leaves(1, INTS, 1), -13);
        due("leaves(1, 1, -1) of nobody", x.leaves(1, INTS, -1), -13);
        due("leaves(1, 1, MAX) of nobody", x.leaves(1, INTS, MAX), -13);
        due("leaves(1, 1, MIN) of nobody", x.leaves(1, INTS, MIN), -13);
        says("Terms", "INDEX: of a row of 0 items there is none to take");
        x.buyer(1);
        due("leaves(1, 1, 0)", x.leaves(1, INTS, 0), -13);
    }

    private static void leavesNot() {
        says("Promise 26", "NOT: there is no BUYER");
        WholeMarks x = new WholeMarks();
        fill(x, 0, INTS, 200, 200, -1);
        due("leaves(0, 1, 0)", x.leaves(0, INTS, 0), -2);
        x.buyer(1);
        x.home();
        due("leaves(0, 1, 0) behind home()", x.leaves(0, INTS, 0), -2);
        says("Promise 26", "NOT: one is not 0 .. 9999999: just inside");
        x = withBuyers(1, 1);
        fill(x, 0, INTS, 0, 0, 9999999, 9999999);
        due("0 and 0", x.leaves(0, INTS, 0), -4);
        due("0 and 9999999", x.leaves(0, INTS, 1), 2);
        due("9999999 twice", x.leaves(0, INTS, 2), 1);
        says("Promise 26", "NOT: one is not 0 .. 9999999: just outside, whichever it is");
        for (long v : new long[] {-1, 10000000, Integer.MIN_VALUE, Integer.MAX_VALUE}) {
            fill(x, 0, INTS, v, 200, v);
            fill(x, 1, LONGS, v, 200, v);
            for (int i = 0; i < 2; i++) {
                due("share " + v + " from " + i, x.leaves(0, INTS, i), -2);
                due("share " + v + " from " + i + " of longs", x.leaves(1, LONGS, i), -2);
            }
        }
        fill(x, 1, LONGS, Long.MIN_VALUE, 200, Long.MAX_VALUE, (1L << 32) + 5, 1L << 40);
        for (int i = 0; i < 4; i++) {
            due("a long's share from " + i, x.leaves(1, LONGS, i), -2);
        }
        fill(x, 2, SHORTS, -1, 32767, -32768);
        due("share -1 of shorts", x.leaves(2, SHORTS, 0), -2);
        due("share -32768 of shorts", x.leaves(2, SHORTS, 1), -2);
        says("Promise 26", "NOT: what is ahead of i and behind the last BUYER's is not asked");
        fill(x, 0, INTS, -1, 200, 0, -1);
        due("leaves(0, 1, 1)", x.leaves(0, INTS, 1), 1);
    }

    private static void leavesWho() {
        says("Terms", "SHARES together are more than its PRICE: as much is not more");
        WholeMarks x = withBuyers(50);
        int[] shares = {0, 179, 180, 181};
        int[] due = {-4, -4, -4, 1};
        for (int i = 0; i < shares.length; i++) {
            fill(x, 0, INTS, shares[i]);
            due("leaves of " + shares[i], x.leaves(0, INTS, 0), due[i]);
        }
        x = withBuyers(50, 50);
        fill(x, 0, INTS, 90, 90, 91, 0, 181);
        due("90 and 90", x.leaves(0, INTS, 0), -4);
        due("90 and 91", x.leaves(0, INTS, 1), 3);
        due("91 and 0", x.leaves(0, INTS, 2), -4);
        due("0 and 181", x.leaves(0, INTS, 3), 2);
        says("Promise 26", "NONE: none would leave; the empty set doesn't");
        x = withBuyers(1, 1, 1, 1, 1, 1);
        fill(x, 0, SHORTS, 0, 0, 0, 0, 0, 0);
        due("leaves of 0s", x.leaves(0, SHORTS, 0), -4);
        fill(x, 0, SHORTS, 30, 30, 30, 30, 30, 30);
        due("leaves of 30s", x.leaves(0, SHORTS, 0), -4);
        says("Terms", "the least set: Sets are bits");
        fill(x, 0, SHORTS, 30, 30, 30, 30, 30, 31);
        due("leaves of all six", x.leaves(0, SHORTS, 0), 63);
        fill(x, 0, SHORTS, 0, 0, 0, 0, 0, 181);
        due("leaves of the last", x.leaves(0, SHORTS, 0), 32);
        fill(x, 0, SHORTS, 100, 0, 100, 0, 181, 0);
        due("leaves: 5 is less than 16", x.leaves(0, SHORTS, 0), 5);
        fill(x, 0, SHORTS, 0, 181, 90, 91, 0, 0);
        due("leaves: 2 is less than 12", x.leaves(0, SHORTS, 0), 2);
        fill(x, 0, SHORTS, 1, 180, 180, 180, 180, 180);
        due("leaves: 3 is the least", x.leaves(0, SHORTS, 0), 3);
        fill(x, 0, SHORTS, 0, 180, 180, 0, 0, 0);
        due("leaves: 6 is the least", x.leaves(0, SHORTS, 0), 6);
        says("Terms", "more than its PRICE: of what this set WANTS");
        x = withBuyers(180, 181, 1);
        fill(x, 0, INTS, 180, 361, 0);
        due("leaves of 180, 361", x.leaves(0, INTS, 0), 2);
        fill(x, 0, INTS, 180, 360, 1);
        due("leaves of 180, 360, 1", x.leaves(0, INTS, 0), 6);
        fill(x, 0, INTS, 180, 360, 0);
        due("leaves of 180, 360, 0", x.leaves(0, INTS, 0), -4);
        says("Terms", "SHARES together: as many as there can be");
        x = withBuyers(1, 1, 1, 1, 1, 1);
        read(x, "999,998,997;012");
        fill(x, 0, INTS, 9999999, 9999999, 9999999, 9999999, 9999999, 9999999);
        due("leaves of 59999994", x.leaves(0, INTS, 0), -4);
        read(x, "999,998,60;012");
        due("leaves of 59999994 for 9970020", x.leaves(0, INTS, 0), 1);
        says("Promise 26", "nothing is changed by it");
        x = withBuyers(50, 60);
        fill(x, 0, INTS, 90, 91);
        x.leaves(0, INTS, 0);
        dueItems(x, 0, INTS, 90, 91);
        due("count(4)", x.count(4), 110);
    }

    // ---- fit

    private static void fitRefused() {
        WholeMarks x = new WholeMarks();
        fill(x, 0, INTS, 60, 60, 60, 60, 60, 60, 60, 60, 60);
        says("Promise 27", "BAD: SHEETS 0 .. 3, a LANE 0 .. 2");
        for (int no : NO_SHEETS) {
            due("fit(" + no + ", 1, 0, 1, 0)", x.fit(no, INTS, 0, 1, 0), -1);
        }
        for (int no : NO_LANES) {
            due("fit(0, " + no + ", 0, 1, 0)", x.fit(0, no, 0, 1, 0), -1);
        }
        says("Promise 27", "n lengths (1 .. 8): just inside");
        for (int n = 1; n <= 8; n++) {
            due("fit(0, 1, 0, " + n + ", 0)", x.fit(0, INTS, 0, n, 0), 55);
        }
        says("Promise 27", "n lengths (1 .. 8): just outside is BAD");
        for (int n : new int[] {0, 9, -1, 10, MIN, MAX}) {
            due("fit(0, 1, 0, " + n + ", 0)", x.fit(0, INTS, 0, n, 0), -1);
        }
        says("Promise 27", "how many pairs (0), the best (1): any other is BAD");
        for (int what : new int[] {-1, 2, 3, MIN, MAX}) {
            due("fit(0, 1, 0, 1, " + what + ")", x.fit(0, INTS, 0, 1, what), -1);
        }
        says("Promise 27", "BAD is ahead of NULL, CAST, INDEX, NOT");
        x.item(0, INTS, 0, 0);
        for (int i = -1; i < 2; i++) {
            due("fit(1, 1, " + i + ", 9, 0) of nothing", x.fit(1, INTS, i, 9, 0), -1);
            due("fit(1, 1, " + i + ", 1, 2) of nothing", x.fit(1, INTS, i, 1, 2), -1);
            due("fit(1, 3, " + i + ", 1, 0) of nothing", x.fit(1, 3, i, 1, 0), -1);
            due("fit(0, 2, " + i + ", 0, 0) of ints", x.fit(0, LONGS, i, 0, 0), -1);
            due("fit(0, 2, " + i + ", 1, -1) of ints", x.fit(0, LONGS, i, 1, -1), -1);
            due("fit(0, 1, " + i + ", 0, 0)", x.fit(0, INTS, i, 0, 0), -1);
            due("fit(0, 1, " + i + ", 1, 2)", x.fit(0, INTS, i, 1, 2), -1);
        }
        says("Terms", "NULL, CAST, INDEX in this order; all of them ahead of NOT");
        due("fit(1, 1, -1, 1, 0) of nothing", x.fit(1, INTS, -1, 1, 0), -11);
        due("fit(0, 2, -1, 1, 0) of ints", x.fit(0, LONGS, -1, 1, 0), -12);
        due("fit(0, 0, 0, 1, 0) of ints", x.fit(0, SHORTS, 0, 1, 0), -12);
        x.item(0, INTS, 8, 0);
        due("fit(0, 1, 8, 2, 0) of a length 0", x.fit(0, INTS, 8, 2, 0), -13);
        due("fit(0, 1, 8, 1, 0) of a length 0", x.fit(0, INTS, 8, 1, 0), -2);
    }

    private static void fitIndex() {
        says("Promise 27", "INDEX: n lengths from item i on: just inside and just outside");
        for (int n = 1; n <= 8; n++) {
            WholeMarks x = new WholeMarks();
            fill(x, 0, SHORTS, 60, 60, 60, 60, 60, 60, 60, 60, 60, 60, 60, 60, 60, 60, 60, 60);
            fill(x, 1, SHORTS, 60, 60, 60);
            due("fit(0, 0, last, " + n + ", 0)", x.fit(0, SHORTS, 16 - n, n, 0), 55);
            due("fit(0, 0, behind the last, " + n + ", 0)", x.fit(0, SHORTS, 17 - n, n, 0), -13);
            due("fit(0, 0, -1, " + n + ", 0)", x.fit(0, SHORTS, -1, n, 0), -13);
            due("fit(0, 0, 16, " + n + ", 0)", x.fit(0, SHORTS, 16, n, 0), -13);
            due("fit(0, 0, MAX, " + n + ", 0)", x.fit(0, SHORTS, MAX, n, 0), -13);
            due("fit(0, 0, MAX less n, " + n + ", 0)", x.fit(0, SHORTS, MAX - n + 1, n, 0), -13);
            due("fit(0, 0, MIN, " + n + ", 0)", x.fit(0, SHORTS, MIN, n, 0), -13);
            due("fit(1, 0, 0, " + n + ", 0) of three", x.fit(1, SHORTS, 0, n, 0), n <= 3 ? 55 : -13);
        }
        says("Terms", "INDEX: of a row of 0 items there is none to take");
        WholeMarks x = new WholeMarks();
        x.sheet(0, LONGS, 0);
        due("fit(0, 2, 0, 1, 0)", x.fit(0, LONGS, 0, 1, 0), -13);
    }

    private static void fitLengths() {
        WholeMarks x = new WholeMarks();
        says("Promise 27", "lengths 1 .. 999999 each: just inside");
        fill(x, 0, INTS, 1, 999999, 2, 999998);
        due("fit of 1", x.fit(0, INTS, 0, 1, 0), 0);
        due("fit of 999999", x.fit(0, INTS, 1, 1, 0), 45);
        due("fit of 2", x.fit(0, INTS, 2, 1, 0), 0);
        due("fit of 999998, 2 by 31 by 127 by 127", x.fit(0, INTS, 3, 1, 0), 1);
        says("Promise 27", "NOT: a length is not as told: just outside, whichever it is");
        for (long v : new long[] {0, 1000000, -1, -60, Integer.MIN_VALUE, Integer.MAX_VALUE}) {
            for (int at = 0; at < 3; at++) {
                fill(x, 0, INTS, 60, 60, 60);
                fill(x, 1, LONGS, 60, 60, 60);
                x.item(0, INTS, at, v);
                x.item(1, LONGS, at, v);
                due("fit of " + v + " at " + at, x.fit(0, INTS, 0, 3, 0), -2);
                due("fit of " + v + " at " + at + " of longs", x.fit(1, LONGS, 0, 3, 1), -2);
            }
        }
        fill(x, 1, LONGS, (1L << 32) + 60, Long.MIN_VALUE, Long.MAX_VALUE);
        for (int i = 0; i < 3; i++) {
            due("fit of a long's length " + i, x.fit(1, LONGS, i, 1, 0), -2);
        }
        says("Promise 27", "NOT: a length ahead of i, or behind the n-th, is not asked");
        fill(x, 0, INTS, 0, 60, 60, 0);
        due("fit(0, 1, 1, 2, 0)", x.fit(0, INTS, 1, 2, 0), 55);
        says("Promise 27", "nothing is changed by it");
        dueItems(x, 0, INTS, 0, 60, 60, 0);
    }

    private static void dueFit(int pairs, int best, long... lengths) {
        WholeMarks x = new WholeMarks();
        fill(x, 0, LONGS, lengths);
        String of = java.util.Arrays.toString(lengths);
        due("fit(0) of " + of, x.fit(0, LONGS, 0, lengths.length, 0), pairs);
        due("fit(1) of " + of, x.fit(0, LONGS, 0, lengths.length, 1), best);
    }

    private static void fitPairs() {
        says("Promise 27", "how many pairs is 0, NONE: there are none (1)");
        dueFit(0, -4, 1);
        dueFit(0, -4, 59);
        dueFit(0, -4, 60, 1);
        dueFit(0, -4, 4, 6);
        says("Terms", "pairs a, b (2 .. 60): just inside");
        dueFit(1, 204, 4);
        dueFit(1, 259, 118);
        dueFit(1, 359, 177);
        dueFit(55, 260, 60);
        dueFit(66, 5960, 3540);
        says("Terms", "pairs a, b (2 .. 60): just outside: neither 1 nor 61, 62");
        dueFit(0, -4, 61);
        dueFit(0, -4, 122);
        dueFit(0, -4, 3721);
        dueFit(1, 231, 62);
        dueFit(1, 231, 62, 124);
        says("Terms", "a less than b: no number is a pair with itself, each pair is one");
        dueFit(0, -4, 2);
        dueFit(1, 204, 4);
        dueFit(3, 203, 6);
        dueFit(0, -4, 7);
        dueFit(1, 749, 49);
        says("Terms", "told lengths are all so many times a, and b");
        dueFit(3, 203, 12, 18);
        dueFit(1, 204, 4, 8);
        dueFit(0, -4, 12, 18, 8);
        dueFit(0, -4, 60, 60, 60, 60, 60, 60, 60, 59);
        dueFit(0, -4, 59, 60, 60, 60, 60, 60, 60, 60);
        dueFit(55, 260, 60, 60, 60, 60, 60, 60, 60, 60);
        dueFit(55, 260, 60, 120, 180, 240, 300, 360, 420, 999960);
    }

    private static void fitBest() {
        says("Terms", "that with the greatest least common length");
        dueFit(45, 3739, 999999);
        dueFit(105, 445, 360, 720, 180);
        dueFit(45, 332, 98304);
        dueFit(3, 941, 99999);
        dueFit(1, 231, 999998);
        says("Terms", "of like ones the first");
        dueFit(55, 260, 60);
        dueFit(10, 212, 12);
        dueFit(6, 216, 16);
        dueFit(3, 208, 8);
        dueFit(10, 209, 18);
        dueFit(3, 307, 21, 42, 63);
        says("Terms", "as 100 a and b");
        dueFit(1, 259, 118);
        dueFit(66, 5960, 3540);
    }

    // ---- film

    private static void filmRefused() {
        WholeMarks x = withBolts(0, 300, 400);
        x.sheet(0, INTS, 4);
        says("Promise 28", "BAD: SHEETS 0 .. 3, a LANE 0 .. 2");
        for (int no : NO_SHEETS) {
            due("film(" + no + ", 1, 0)", x.film(no, INTS, 0), -1);
        }
        for (int no : NO_LANES) {
            due("film(0, " + no + ", 0)", x.film(0, no, 0), -1);
        }
        says("Promise 28", "NULL: a SHEET that holds nothing");
        for (int s = 1; s < 4; s++) {
            due("film(" + s + ", 1, 0)", x.film(s, INTS, 0), -11);
        }
        says("Promise 28", "CAST: of another LANE");
        due("film(0, 0, 0)", x.film(0, SHORTS, 0), -12);
        due("film(0, 2, 0)", x.film(0, LONGS, 0), -12);
        says("Promise 28", "BAD is ahead of NULL, CAST, INDEX; NULL, CAST, INDEX in this order");
        due("film(1, 3, 0) of nothing", x.film(1, 3, 0), -1);
        due("film(0, -1, 99)", x.film(0, -1, 99), -1);
        due("film(1, 1, -1) of nothing", x.film(1, INTS, -1), -11);
        due("film(0, 2, -1) of ints", x.film(0, LONGS, -1), -12);
        says("Promise 28", "INDEX: just inside and just outside");
        due("film(0, 1, -1)", x.film(0, INTS, -1), -13);
        due("film(0, 1, 3)", x.film(0, INTS, 3), -13);
        due("film(0, 1, 4)", x.film(0, INTS, 4), -13);
        due("film(0, 1, MAX)", x.film(0, INTS, MAX), -13);
        due("film(0, 1, MAX - 1)", x.film(0, INTS, MAX - 1), -13);
        due("film(0, 1, MIN)", x.film(0, INTS, MIN), -13);
        says("Promise 28", "what is refused changes nothing: not even the items that there are come");
        dueItems(x, 0, INTS, 0, 0, 0, 0);
        due("film(0, 1, 2)", x.film(0, INTS, 2), 2);
        dueItems(x, 0, INTS, 0, 0, 300, 400);
        due("film(0, 1, 0)", x.film(0, INTS, 0), 2);
        dueItems(x, 0, INTS, 300, 400, 300, 400);
        says("Terms", "INDEX also where no item is taken, if i is below 0, or above how many there are");
        x = new WholeMarks();
        x.sheet(0, SHORTS, 2);
        x.sheet(1, SHORTS, 0);
        due("film(0, 0, 0) of none", x.film(0, SHORTS, 0), 0);
        due("film(0, 0, 2) of none", x.film(0, SHORTS, 2), 0);
        due("film(0, 0, 3) of none", x.film(0, SHORTS, 3), -13);
        due("film(0, 0, -1) of none", x.film(0, SHORTS, -1), -13);
        due("film(1, 0, 0) of none", x.film(1, SHORTS, 0), 0);
        due("film(1, 0, 1) of none", x.film(1, SHORTS, 1), -13);
        due("film(1, 0, -1) of none", x.film(1, SHORTS, -1), -13);
        due("film(1, 0, MAX) of none", x.film(1, SHORTS, MAX), -13);
        x.bolt(0, 5);
        due("film(1, 0, 0) of one to a row of 0 items", x.film(1, SHORTS, 0), -13);
    }

    private static void filmItems() {
        says("Promise 28", "lengths of all BOLTS: how many; of 8 BOLTS, at the end of 16 items");
        WholeMarks x = withBolts(1, 11, 12, 13, 14, 15, 16, 17, 18);
        x.sheet(0, SHORTS, 16);
        x.sheet(1, LONGS, 8);
        x.sheet(2, INTS, 7);
        due("film(0, 0, 8)", x.film(0, SHORTS, 8), 8);
        due("film(0, 0, 9)", x.film(0, SHORTS, 9), -13);
        due("film(1, 2, 0)", x.film(1, LONGS, 0), 8);
        due("film(1, 2, 1)", x.film(1, LONGS, 1), -13);
        due("film(2, 1, 0)", x.film(2, INTS, 0), -13);
        dueItems(x, 0, SHORTS, 0, 0, 0, 0, 0, 0, 0, 0, 11, 12, 13, 14, 15, 16, 17, 18);
        dueItems(x, 1, LONGS, 11, 12, 13, 14, 15, 16, 17, 18);
        says("Promise 28", "lengths of all BOLTS: those of 0 inches too");
        x = withBolts(0, 180, 200, 7);
        x.cut(0, 180);
        fill(x, 0, INTS, 9, 9, 9, 9);
        due("film(0, 1, 0)", x.film(0, INTS, 0), 3);
        dueItems(x, 0, INTS, 0, 200, 7, 9);
        says("Promise 28", "their lowest bits: of shorts 16, with a sign");
        // 32767, 32768 (below 0), 65535 (-1), 65536 (0), 65537 (1), 99999 (34463, below 0), 98304 (32768), 98303 (32767)
        x = withBolts(0, 32767, 32768, 65535, 65536, 65537, 99999, 98304, 98303);
        x.buyer(9999);
        x.sheet(0, SHORTS, 8);
        x.sheet(1, INTS, 8);
        x.film(0, SHORTS, 0);
        due("32767", x.leaves(0, SHORTS, 0), 1);
        due("32768", x.leaves(0, SHORTS, 1), -2);
        due("65535", x.leaves(0, SHORTS, 2), -2);
        due("65536 is 0", isItem(x, 0, SHORTS, 3, 0) ? 1 : 0, 1);
        due("65537 is 1", isItem(x, 0, SHORTS, 4, 1) ? 1 : 0, 1);
        due("99999", x.leaves(0, SHORTS, 5), -2);
        due("98304", x.leaves(0, SHORTS, 6), -2);
        due("98303", x.leaves(0, SHORTS, 7), 1);
        says("Promise 28", "their lowest bits: of ints and longs all");
        x.film(1, INTS, 0);
        for (int i = 0; i < 8; i++) {
            due("leaves(1, 1, " + i + ")", x.leaves(1, INTS, i), 1);
        }
        // 99999 is 3 by 3 by 41 by 271, 98304 is 3 by 2 to the 15th
        due("fit of 99999: 3, 9, 41", x.fit(1, INTS, 5, 1, 0), 3);
        due("fit of 98304: 2, 4, 8, 16, 32, 3, 6, 12, 24, 48", x.fit(1, INTS, 6, 1, 0), 45);
        says("Promise 28", "lengths of all BOLTS, and no more: the items ahead and behind stay");
        x = withBolts(2, 300, 400);
        for (int i = 0; i <= 3; i++) {
            fill(x, 0, INTS, 21, 22, 23, 24, 25);
            due("film(0, 1, " + i + ")", x.film(0, INTS, i), 2);
            int[] items = {21, 22, 23, 24, 25};
            items[i] = 300;
            items[i + 1] = 400;
            dueItems(x, 0, INTS, items);
        }
        x = new WholeMarks();
        fill(x, 0, INTS, 21, 22);
        due("film(0, 1, 1) of none", x.film(0, INTS, 1), 0);
        dueItems(x, 0, INTS, 21, 22);
        says("Promise 28", "a film is of its time: what is cut behind it does not change it");
        x = withBolts(0, 200);
        x.sheet(0, INTS, 1);
        x.film(0, INTS, 0);
        x.cut(0, 180);
        dueItems(x, 0, INTS, 200);
        due("told(0, 1)", x.told(0, 1), 20);
    }

    // ---- sheet, drop

    private static void sheetBounds() {
        says("Promise 29", "BAD: SHEETS 0 .. 3, a LANE 0 .. 2");
        for (int no : NO_SHEETS) {
            due("sheet(" + no + ", 0, 1)", new WholeMarks().sheet(no, SHORTS, 1), -1);
        }
        for (int no : NO_LANES) {
            due("sheet(0, " + no + ", 1)", new WholeMarks().sheet(0, no, 1), -1);
        }
        says("Terms", "SHEETS 0 .. 3, a row of a LANE, of 0 to 16 items: just inside");
        for (int s = 0; s < 4; s++) {
            for (int lane = 0; lane < 3; lane++) {
                for (int n = 0; n <= 16; n++) {
                    WholeMarks x = new WholeMarks();
                    due("sheet(" + s + ", " + lane + ", " + n + ")", x.sheet(s, lane, n), n);
                    due("the last item of " + n, x.item(s, lane, n - 1, 5), n == 0 ? -13 : 1);
                    due("the item behind " + n, x.item(s, lane, n, 5), -13);
                    due("drop(" + s + ")", x.drop(s), n);
                }
            }
        }
        says("Promise 29", "BAD: also n above 16");
        for (int n : new int[] {17, 18, MAX}) {
            due("sheet(0, 0, " + n + ")", new WholeMarks().sheet(0, SHORTS, n), -1);
        }
        says("Promise 29", "SIZE: n below 0");
        for (int n : new int[] {-1, -2, MIN}) {
            due("sheet(0, 0, " + n + ")", new WholeMarks().sheet(0, SHORTS, n), -14);
        }
        says("Promise 29", "BAD is ahead of SIZE");
        due("sheet(4, 0, -1)", new WholeMarks().sheet(4, SHORTS, -1), -1);
        due("sheet(-1, 0, -1)", new WholeMarks().sheet(-1, SHORTS, -1), -1);
        due("sheet(0, 3, -1)", new WholeMarks().sheet(0, 3, -1), -1);
        due("sheet(0, -1, -1)", new WholeMarks().sheet(0, -1, -1), -1);
        says("Promise 29", "what is refused changes nothing: the SHEET holds what it held");
        WholeMarks x = new WholeMarks();
        fill(x, 0, INTS, 5, 6, 7);
        x.sheet(0, INTS, 17);
        x.sheet(0, SHORTS, -1);
        x.sheet(0, 3, 1);
        x.sheet(0, -1, 1);
        x.sheet(1, INTS, 17);
        x.sheet(1, INTS, -1);
        dueItems(x, 0, INTS, 5, 6, 7);
        due("drop(0)", x.drop(0), 3);
        due("drop(1)", x.drop(1), -11);
    }

    private static void sheetNewRow() {
        says("Promise 29", "a new row: all its items are 0, as long and of the LANE as told");
        WholeMarks x = new WholeMarks();
        for (int lane = 0; lane < 3; lane++) {
            x.sheet(0, lane, 16);
            for (int i = 0; i < 16; i++) {
                x.item(0, lane, i, 60 + i);
            }
            int next = (lane + 1) % 3;
            due("sheet(0, " + next + ", 16)", x.sheet(0, next, 16), 16);
            for (int i = 0; i < 16; i++) {
                due("fit of new item " + i, x.fit(0, next, i, 1, 0), -2);
            }
            due("item of the LANE that was", x.item(0, lane, 0, 1), -12);
        }
        dueItems(x, 0, SHORTS, 0, 0, 0);
        says("Promise 29", "a new row: longer or shorter than what was, none of its items is there");
        fill(x, 1, INTS, 5, 6, 7, 8);
        x.sheet(1, INTS, 2);
        due("item(1, 1, 2)", x.item(1, INTS, 2, 1), -13);
        x.sheet(1, INTS, 4);
        dueItems(x, 1, INTS, 0, 0, 0, 0);
        fill(x, 1, INTS, 5, 6, 7, 8);
        x.drop(1);
        x.sheet(1, INTS, 3);
        dueItems(x, 1, INTS, 0, 0, 0);
        says("Promise 29", "each SHEET has a row of its own");
        x = new WholeMarks();
        for (int s = 0; s < 4; s++) {
            fill(x, s, s % 3, 10 * s + 10, 10 * s + 11);
        }
        for (int s = 0; s < 4; s++) {
            dueItems(x, s, s % 3, 10 * s + 10, 10 * s + 11);
        }
    }

    private static void drop() {
        says("Promise 30", "BAD: SHEETS 0 .. 3");
        for (int no : NO_SHEETS) {
            due("drop(" + no + ")", new WholeMarks().drop(no), -1);
        }
        says("Promise 30", "NULL: a SHEET that holds nothing, at first and behind a drop");
        WholeMarks x = new WholeMarks();
        for (int s = 0; s < 4; s++) {
            due("drop(" + s + ")", x.drop(s), -11);
            x.sheet(s, LONGS, s);
            due("drop(" + s + ")", x.drop(s), s);
            due("drop(" + s + ") again", x.drop(s), -11);
        }
        says("Promise 30", "how many items it had: of 0 items it is not nothing");
        x.sheet(0, SHORTS, 0);
        due("drop(0) of 0 items", x.drop(0), 0);
        x.sheet(0, INTS, 16);
        due("drop(0) of 16 items", x.drop(0), 16);
        says("Promise 30", "a SHEET holds nothing: each call finds NULL there");
        fill(x, 1, INTS, 60);
        x.buyer(1);
        x.bolt(0, 1);
        x.drop(1);
        due("leaves(1, 1, 0)", x.leaves(1, INTS, 0), -11);
        due("fit(1, 1, 0, 1, 0)", x.fit(1, INTS, 0, 1, 0), -11);
        due("film(1, 1, 0)", x.film(1, INTS, 0), -11);
        due("item(1, 1, 0, 1)", x.item(1, INTS, 0, 1), -11);
        due("copy(1, 0, 1, 0, 0)", x.copy(1, 0, 1, 0, 0), -11);
        says("Promise 30", "the other SHEETS stay");
        fill(x, 2, INTS, 60);
        fill(x, 3, SHORTS, 61);
        x.drop(2);
        x.drop(4);
        dueItems(x, 3, SHORTS, 61);
    }

    // ---- item

    private static void itemRefused() {
        WholeMarks x = new WholeMarks();
        fill(x, 0, INTS, 5, 6, 7);
        x.sheet(3, INTS, 0);
        says("Promise 31", "BAD: SHEETS 0 .. 3, a LANE 0 .. 2");
        for (int no : NO_SHEETS) {
            due("item(" + no + ", 1, 0, 1)", x.item(no, INTS, 0, 1), -1);
        }
        for (int no : NO_LANES) {
            due("item(0, " + no + ", 0, 1)", x.item(0, no, 0, 1), -1);
        }
        says("Promise 31", "NULL: a SHEET that holds nothing");
        due("item(1, 1, 0, 1)", x.item(1, INTS, 0, 1), -11);
        due("item(2, 0, 0, 1)", x.item(2, SHORTS, 0, 1), -11);
        says("Promise 31", "CAST: of another LANE");
        due("item(0, 0, 0, 1)", x.item(0, SHORTS, 0, 1), -12);
        due("item(0, 2, 0, 1)", x.item(0, LONGS, 0, 1), -12);
        says("Promise 31", "INDEX: just inside and just outside");
        due("item(0, 1, -1, 1)", x.item(0, INTS, -1, 1), -13);
        due("item(0, 1, 3, 1)", x.item(0, INTS, 3, 1), -13);
        due("item(0, 1, 15, 1)", x.item(0, INTS, 15, 1), -13);
        due("item(0, 1, 16, 1)", x.item(0, INTS, 16, 1), -13);
        due("item(0, 1, MIN, 1)", x.item(0, INTS, MIN, 1), -13);
        due("item(0, 1, MAX, 1)", x.item(0, INTS, MAX, 1), -13);
        due("item(3, 1, 0, 1) of 0 items", x.item(3, INTS, 0, 1), -13);
        due("item(3, 1, -1, 1) of 0 items", x.item(3, INTS, -1, 1), -13);
        says("Promise 31", "BAD is ahead of NULL, CAST, INDEX; NULL, CAST, INDEX in this order");
        due("item(1, 3, 0, 1) of nothing", x.item(1, 3, 0, 1), -1);
        due("item(0, -1, -1, 1)", x.item(0, -1, -1, 1), -1);
        due("item(1, 1, -1, 1) of nothing", x.item(1, INTS, -1, 1), -11);
        due("item(0, 2, -1, 1) of ints", x.item(0, LONGS, -1, 1), -12);
        due("item(0, 0, 3, 1) of ints", x.item(0, SHORTS, 3, 1), -12);
        says("Promise 31", "what is refused changes nothing");
        dueItems(x, 0, INTS, 5, 6, 7);
        due("item(0, 1, 0, 8)", x.item(0, INTS, 0, 8), 1);
        due("item(0, 1, 2, 9)", x.item(0, INTS, 2, 9), 1);
        dueItems(x, 0, INTS, 8, 6, 9);
    }

    private static void itemBits() {
        WholeMarks x = withBuyers(1);
        x.sheet(0, SHORTS, 1);
        x.sheet(1, INTS, 1);
        x.sheet(2, LONGS, 1);
        says("Promise 31", "its lowest bits: of shorts 16, with a sign");
        long[] is200 = {200, (1L << 16) + 200, 200 - (1L << 16), (1L << 32) + 200, Long.MIN_VALUE + 200};
        for (long v : is200) {
            due("item(0, 0, 0, " + v + ")", x.item(0, SHORTS, 0, v), 1);
            due(v + " is 200", isItem(x, 0, SHORTS, 0, 200) ? 1 : 0, 1);
        }
        for (long v : new long[] {-1, 32768, 65535, -32768, (1L << 32) - 1, Long.MAX_VALUE}) {
            due("item(0, 0, 0, " + v + ")", x.item(0, SHORTS, 0, v), 1);
            due(v + " is below 0", x.leaves(0, SHORTS, 0), -2);
        }
        for (long v : new long[] {32767, -32769, (1L << 62) + 32767}) {
            due("item(0, 0, 0, " + v + ")", x.item(0, SHORTS, 0, v), 1);
            due(v + " is 32767, 7 by 31 by 151", x.fit(0, SHORTS, 0, 1, 1), 731);
        }
        for (long v : new long[] {0, 65536, 1L << 31, 1L << 32, Long.MIN_VALUE}) {
            due("item(0, 0, 0, " + v + ")", x.item(0, SHORTS, 0, v), 1);
            due(v + " is 0", isItem(x, 0, SHORTS, 0, 0) ? 1 : 0, 1);
        }
        says("Promise 31", "its lowest bits: of ints 32, with a sign");
        for (long v : new long[] {200, (1L << 32) + 200, 200 - (1L << 32), Long.MIN_VALUE + 200}) {
            due("item(1, 1, 0, " + v + ")", x.item(1, INTS, 0, v), 1);
            due(v + " is 200", isItem(x, 1, INTS, 0, 200) ? 1 : 0, 1);
        }
        for (long v : new long[] {-1, 1L << 31, (1L << 32) - 1, -(1L << 31), Long.MAX_VALUE, 10000000, (1L << 31) - 1}) {
            due("item(1, 1, 0, " + v + ")", x.item(1, INTS, 0, v), 1);
            due(v + " is no share", x.leaves(1, INTS, 0), -2);
        }
        for (long v : new long[] {32768, 65536, 9999999, (1L << 32) + 32768}) {
            due("item(1, 1, 0, " + v + ")", x.item(1, INTS, 0, v), 1);
            due(v + " is a great share", x.leaves(1, INTS, 0), 1);
        }
        for (long v : new long[] {0, 1L << 32, Long.MIN_VALUE}) {
            due("item(1, 1, 0, " + v + ")", x.item(1, INTS, 0, v), 1);
            due(v + " is 0", isItem(x, 1, INTS, 0, 0) ? 1 : 0, 1);
        }
        says("Promise 31", "of longs all bits");
        for (long v : new long[] {-1, 1L << 31, 1L << 32, (1L << 32) + 200, Long.MIN_VALUE, Long.MIN_VALUE + 200, Long.MAX_VALUE}) {
            due("item(2, 2, 0, " + v + ")", x.item(2, LONGS, 0, v), 1);
            due(v + " is no share", x.leaves(2, LONGS, 0), -2);
        }
        for (long v : new long[] {0, 1, 200, 9999}) {
            due("item(2, 2, 0, " + v + ")", x.item(2, LONGS, 0, v), 1);
            due(v + " is " + v, isItem(x, 2, LONGS, 0, (int) v) ? 1 : 0, 1);
        }
    }

    // ---- copy

    private static void copyRefused() {
        WholeMarks x = new WholeMarks();
        fill(x, 0, INTS, 5, 6, 7);
        fill(x, 1, LONGS, 5, 6, 7);
        says("Promise 32", "BAD: SHEETS 0 .. 3, from and to");
        for (int no : NO_SHEETS) {
            due("copy(" + no + ", 0, 0, 0, 1)", x.copy(no, 0, 0, 0, 1), -1);
            due("copy(0, 0, " + no + ", 0, 1)", x.copy(0, 0, no, 0, 1), -1);
            due("copy(" + no + ", 0, " + no + ", 0, 1)", x.copy(no, 0, no, 0, 1), -1);
        }
        says("Promise 32", "NULL (either)");
        due("copy(2, 0, 0, 0, 1)", x.copy(2, 0, 0, 0, 1), -11);
        due("copy(0, 0, 2, 0, 1)", x.copy(0, 0, 2, 0, 1), -11);
        due("copy(2, 0, 3, 0, 1)", x.copy(2, 0, 3, 0, 1), -11);
        due("copy(2, 0, 2, 0, 0)", x.copy(2, 0, 2, 0, 0), -11);
        says("Promise 32", "CAST: of unlike LANES");
        for (int a = 0; a < 3; a++) {
            for (int b = 0; b < 3; b++) {
                x.sheet(2, a, 1);
                x.sheet(3, b, 1);
                due("copy of LANE " + a + " to LANE " + b, x.copy(2, 0, 3, 0, 1), a == b ? 1 : -12);
                due("copy of no item of LANE " + a + " to LANE " + b, x.copy(2, 0, 3, 0, 0), a == b ? 0 : -12);
            }
        }
        x.drop(2);
        x.drop(3);
        says("Promise 32", "BAD is ahead of NULL, CAST, INDEX; NULL, CAST, INDEX in this order");
        due("copy(4, 0, 2, 0, 1) to nothing", x.copy(4, 0, 2, 0, 1), -1);
        due("copy(2, 0, 4, 0, 1) of nothing", x.copy(2, 0, 4, 0, 1), -1);
        due("copy(4, -1, 0, -1, -1)", x.copy(4, -1, 0, -1, -1), -1);
        due("copy(2, -1, 0, 0, 1) of nothing", x.copy(2, -1, 0, 0, 1), -11);
        due("copy(0, 0, 2, -1, 1) to nothing", x.copy(0, 0, 2, -1, 1), -11);
        due("copy(0, 0, 2, 0, -1) to nothing", x.copy(0, 0, 2, 0, -1), -11);
        due("copy(0, -1, 1, 0, 1) to longs", x.copy(0, -1, 1, 0, 1), -12);
        due("copy(0, 0, 1, 0, -1) to longs", x.copy(0, 0, 1, 0, -1), -12);
        due("copy(0, 0, 1, 0, 4) to longs", x.copy(0, 0, 1, 0, 4), -12);
        says("Promise 32", "what is refused changes nothing");
        fill(x, 2, INTS, 8, 9);
        x.copy(0, 0, 2, 0, 3);
        x.copy(0, 1, 2, 1, 2);
        x.copy(0, 0, 2, 0, -1);
        x.copy(0, 2, 2, 0, 2);
        x.copy(0, 0, 1, 0, 2);
        dueItems(x, 0, INTS, 5, 6, 7);
        dueItems(x, 1, LONGS, 5, 6, 7);
        dueItems(x, 2, INTS, 8, 9);
    }

    private static void copyIndex() {
        WholeMarks x = new WholeMarks();
        fill(x, 0, INTS, 5, 6, 7);
        fill(x, 1, INTS, 1, 2, 3, 4);
        x.sheet(2, INTS, 0);
        x.sheet(3, INTS, 16);
        says("Promise 32", "INDEX: n items from i on: just inside and just outside");
        due("copy(0, 0, 1, 0, 3)", x.copy(0, 0, 1, 0, 3), 3);
        due("copy(0, 0, 1, 0, 4)", x.copy(0, 0, 1, 0, 4), -13);
        due("copy(0, 2, 1, 0, 1)", x.copy(0, 2, 1, 0, 1), 1);
        due("copy(0, 2, 1, 0, 2)", x.copy(0, 2, 1, 0, 2), -13);
        due("copy(0, 3, 1, 0, 1)", x.copy(0, 3, 1, 0, 1), -13);
        due("copy(0, -1, 1, 0, 1)", x.copy(0, -1, 1, 0, 1), -13);
        says("Promise 32", "INDEX: n items from j on: just inside and just outside");
        due("copy(1, 0, 0, 0, 3)", x.copy(1, 0, 0, 0, 3), 3);
        due("copy(1, 0, 0, 0, 4)", x.copy(1, 0, 0, 0, 4), -13);
        due("copy(1, 0, 0, 2, 1)", x.copy(1, 0, 0, 2, 1), 1);
        due("copy(1, 0, 0, 2, 2)", x.copy(1, 0, 0, 2, 2), -13);
        due("copy(1, 0, 0, 3, 1)", x.copy(1, 0, 0, 3, 1), -13);
        due("copy(1, 0, 0, -1, 1)", x.copy(1, 0, 0, -1, 1), -13);
        says("Promise 32", "INDEX (n below 0, too)");
        for (int n : new int[] {-1, -2, -3, MIN, MIN + 1}) {
            due("copy(0, 0, 1, 0, " + n + ")", x.copy(0, 0, 1, 0, n), -13);
            due("copy(0, 3, 1, 4, " + n + ")", x.copy(0, 3, 1, 4, n), -13);
        }
        says("Terms", "INDEX also where no item is taken, if i, j is below 0, or above how many there are");
        due("copy(0, 3, 1, 4, 0)", x.copy(0, 3, 1, 4, 0), 0);
        due("copy(0, 4, 1, 0, 0)", x.copy(0, 4, 1, 0, 0), -13);
        due("copy(0, 0, 1, 5, 0)", x.copy(0, 0, 1, 5, 0), -13);
        due("copy(0, -1, 1, 0, 0)", x.copy(0, -1, 1, 0, 0), -13);
        due("copy(0, 0, 1, -1, 0)", x.copy(0, 0, 1, -1, 0), -13);
        due("copy(2, 0, 2, 0, 0) of 0 items", x.copy(2, 0, 2, 0, 0), 0);
        due("copy(2, 1, 2, 0, 0) of 0 items", x.copy(2, 1, 2, 0, 0), -13);
        due("copy(2, 0, 2, 1, 0) of 0 items", x.copy(2, 0, 2, 1, 0), -13);
        due("copy(2, 0, 0, 0, 1) of 0 items", x.copy(2, 0, 0, 0, 1), -13);
        due("copy(0, 0, 2, 0, 1) to 0 items", x.copy(0, 0, 2, 0, 1), -13);
        says("Promise 32", "INDEX: numbers that come round");
        due("copy(3, MAX, 3, 0, 1)", x.copy(3, MAX, 3, 0, 1), -13);
        due("copy(3, 0, 3, MAX, 1)", x.copy(3, 0, 3, MAX, 1), -13);
        due("copy(3, 1, 3, 1, MAX)", x.copy(3, 1, 3, 1, MAX), -13);
        due("copy(3, MAX, 3, MAX, MAX)", x.copy(3, MAX, 3, MAX, MAX), -13);
        due("copy(3, MIN, 3, 0, 0)", x.copy(3, MIN, 3, 0, 0), -13);
        due("copy(3, 0, 3, MIN, 0)", x.copy(3, 0, 3, MIN, 0), -13);
        due("copy(3, 0, 3, 0, 16)", x.copy(3, 0, 3, 0, 16), 16);
        due("copy(3, 0, 3, 0, 17)", x.copy(3, 0, 3, 0, 17), -13);
        due("copy(3, 16, 3, 16, 0)", x.copy(3, 16, 3, 16, 0), 0);
    }

    private static WholeMarks oneToSeven() {
        WholeMarks x = new WholeMarks();
        fill(x, 0, LONGS, 1, 2, 3, 4, 5, 6, 7);
        return x;
    }

    private static void copyItems() {
        says("Promise 32", "n items from i on come to another one from j on: no more, no fewer");
        WholeMarks x = oneToSeven();
        fill(x, 1, LONGS, 21, 22, 23, 24);
        due("copy(0, 4, 1, 1, 2)", x.copy(0, 4, 1, 1, 2), 2);
        dueItems(x, 1, LONGS, 21, 5, 6, 24);
        dueItems(x, 0, LONGS, 1, 2, 3, 4, 5, 6, 7);
        due("copy(0, 0, 1, 0, 0)", x.copy(0, 0, 1, 0, 0), 0);
        dueItems(x, 1, LONGS, 21, 5, 6, 24);
        says("Promise 32", "to the same, as if all were taken ahead: two rows that lie over one another, upwards");
        x = oneToSeven();
        due("copy(0, 0, 0, 1, 6)", x.copy(0, 0, 0, 1, 6), 6);
        dueItems(x, 0, LONGS, 1, 1, 2, 3, 4, 5, 6);
        x = oneToSeven();
        due("copy(0, 1, 0, 3, 4)", x.copy(0, 1, 0, 3, 4), 4);
        dueItems(x, 0, LONGS, 1, 2, 3, 2, 3, 4, 5);
        says("Promise 32", "to the same, as if all were taken ahead: two rows that lie over one another, downwards");
        x = oneToSeven();
        due("copy(0, 1, 0, 0, 6)", x.copy(0, 1, 0, 0, 6), 6);
        dueItems(x, 0, LONGS, 2, 3, 4, 5, 6, 7, 7);
        x = oneToSeven();
        due("copy(0, 3, 0, 1, 4)", x.copy(0, 3, 0, 1, 4), 4);
        dueItems(x, 0, LONGS, 1, 4, 5, 6, 7, 6, 7);
        says("Promise 32", "to the same: two rows that are one, and two that only touch");
        x = oneToSeven();
        due("copy(0, 2, 0, 2, 5)", x.copy(0, 2, 0, 2, 5), 5);
        dueItems(x, 0, LONGS, 1, 2, 3, 4, 5, 6, 7);
        due("copy(0, 0, 0, 3, 3)", x.copy(0, 0, 0, 3, 3), 3);
        dueItems(x, 0, LONGS, 1, 2, 3, 1, 2, 3, 7);
        says("Promise 32", "items of each LANE");
        for (int lane = 0; lane < 3; lane++) {
            x = new WholeMarks();
            fill(x, 2, lane, 500, 600);
            x.sheet(3, lane, 3);
            due("copy of LANE " + lane, x.copy(2, 0, 3, 1, 2), 2);
            dueItems(x, 3, lane, 0, 500, 600);
        }
        says("Promise 32", "a copy is of its time: what changes behind it in one does not in the other");
        x.item(2, LONGS, 0, 7);
        x.item(3, LONGS, 2, 8);
        dueItems(x, 2, LONGS, 7, 600);
        dueItems(x, 3, LONGS, 0, 500, 8);
    }
}
