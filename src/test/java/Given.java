/** What tests are given: objects in a state, and what a state can be told from. */
abstract class Given {
    static final int MIN = Integer.MIN_VALUE;
    static final int MAX = Integer.MAX_VALUE;
    static final int SHORTS = 0;
    static final int INTS = 1;
    static final int LONGS = 2;

    /** Types a text of any length, eight bytes a call. */
    static void write(WholeMarks x, String text) {
        for (int from = 0; from < text.length(); from += 8) {
            String part = text.substring(from, Math.min(text.length(), from + 8));
            long w = 0;
            for (int i = 0; i < part.length(); i++) {
                w = w << 8 | part.charAt(i);
            }
            x.type(w, part.length());
        }
    }

    static int read(WholeMarks x, String text) {
        write(x, text);
        return x.towns();
    }

    static void fill(WholeMarks x, int sheet, int lane, long... items) {
        x.sheet(sheet, lane, items.length);
        for (int i = 0; i < items.length; i++) {
            x.item(sheet, lane, i, items[i]);
        }
    }

    /** Whether an item is v (0 .. 9999); all but the IMAGE stays. */
    static boolean isItem(WholeMarks x, int sheet, int lane, int i, int v) {
        x.image();
        x.measure(0, 1);
        x.measure(1, 1);
        x.rule(3, 0);
        // where every inch is a place, a buyer leaves from v - 1 and not from v
        boolean is = !leavesFrom(x, sheet, lane, i, Math.max(1, v));
        if (v > 1) {
            is &= leavesFrom(x, sheet, lane, i, v - 1);
        } else {
            is &= x.fit(sheet, lane, i, 1, 0) == (v == 0 ? WholeMarks.NOT : 0);
        }
        x.restore();
        return is;
    }

    /** Whether a buyer who wants so many inches leaves; a share that is not as told counts as one who does. */
    private static boolean leavesFrom(WholeMarks x, int sheet, int lane, int i, int wants) {
        x.home();
        x.buyer(wants);
        int left = x.leaves(sheet, lane, i);
        return left == 1 || left == WholeMarks.NOT && wants == 1;
    }

    static WholeMarks withMeasures(int a, int b, int c, int set, int law) {
        WholeMarks x = new WholeMarks();
        x.measure(0, a);
        x.measure(1, b);
        x.measure(2, c);
        x.rule(set, law);
        return x;
    }

    static WholeMarks withBuyers(int... wants) {
        WholeMarks x = new WholeMarks();
        for (int w : wants) {
            x.buyer(w);
        }
        return x;
    }

    static WholeMarks withBolts(int cloth, int... lengths) {
        WholeMarks x = new WholeMarks();
        for (int length : lengths) {
            x.bolt(cloth, length);
        }
        return x;
    }

    /** With something of all that an image keeps. */
    static WholeMarks withAll() {
        WholeMarks x = withMeasures(20, 15, 12, 7, 1);
        x.bolt(1, 100);
        x.bolt(2, 90);
        x.cut(0, 60);
        x.buyer(50);
        x.buyer(51);
        x.seam(5);
        x.rate(0, 1, 3, 2);
        return x;
    }

    static void changeAll(WholeMarks x) {
        x.measure(0, 5);
        x.measure(1, 6);
        x.measure(2, 7);
        x.rule(5, 0);
        x.seam(6);
        x.cut(1, 35);
        x.bolt(0, 700);
        x.bolt(1, 800);
        x.join(0, 3);
        x.home();
        x.buyer(60);
        x.rate(0, 1, 1, 3);
        x.rate(3, 2, 1, 3);
    }
}
