/** Each sentence with a boundary case in promises 9, 10 and 13, and in the terms that they stand on. */
public final class BoltsSentencesTest extends Sentences {
    private static final int LINEN = 0;
    private static final int WOOL = 1;
    private static final int SILK = 2;
    private static final int FELT = 3;

    public static void main(String[] args) {
        cutRefused();
        cutAtEnds();
        cutLoses();
        joinRefused();
        joinChangesNothing();
        joinLengths();
        joinFull();
        count();
        countMost();
        tellAndExit();
    }

    private static WholeMarks everyInch(int cloth, int... lengths) {
        WholeMarks x = withBolts(cloth, lengths);
        x.measure(0, 1);
        x.measure(1, 1);
        return x;
    }

    private static void cutRefused() {
        says("Promise 9", "BAD: no BOLT");
        for (int bolt : new int[] {0, -1, 7, 8, MIN, MAX}) {
            due("cut(" + bolt + ", 180) of none", new WholeMarks().cut(bolt, 180), -1);
        }
        WholeMarks x = withBolts(LINEN, 400, 400);
        due("cut(2, 180)", x.cut(2, 180), -1);
        due("cut(-1, 180)", x.cut(-1, 180), -1);
        due("cut(1, 180)", x.cut(1, 180), 220);
        says("Promise 9", "BAD is ahead of NOT");
        due("cut(2, 181)", x.cut(2, 181), -1);
        due("cut(2, 0)", x.cut(2, 0), -1);
        due("cut(-1, MAX)", x.cut(-1, MAX), -1);
        due("cut(0, 1) of none", new WholeMarks().cut(0, 1), -1);
        says("Promise 9", "NOT: no PLACE");
        x = withBolts(LINEN, 99999);
        for (int length : new int[] {1, 30, 36, 90, 179, 181, 359, 361, 99899, 99901, 99999}) {
            due("cut(0, " + length + ")", x.cut(0, length), -2);
        }
        says("Promise 9", "NOT: also below 1, where it is so many times each MEASURE too");
        for (int length : new int[] {0, -1, -180, -360, MIN}) {
            due("cut(0, " + length + ")", x.cut(0, length), -2);
            due("cut(0, " + length + ") of every inch", everyInch(WOOL, 9).cut(0, length), -2);
        }
        says("Promise 9", "NOT: more than there is");
        due("cut(0, 180) of 179", withBolts(LINEN, 179).cut(0, 180), -2);
        due("cut(0, 360) of 359", withBolts(LINEN, 359).cut(0, 360), -2);
        due("cut(0, 100080)", withBolts(LINEN, 99999).cut(0, 100080), -2);
        due("cut(0, 10) of 9 of every inch", everyInch(LINEN, 9).cut(0, 10), -2);
        due("cut(0, MAX)", everyInch(LINEN, 9).cut(0, MAX), -2);
        says("Promise 9", "NOT: of a BOLT of 0 inches there is no more to cut");
        x = everyInch(LINEN, 9);
        x.cut(0, 9);
        due("cut(0, 1)", x.cut(0, 1), -2);
        due("cut(0, 0)", x.cut(0, 0), -2);
        says("Promise 9", "what is refused changes nothing: not the BOLT, not what is sold");
        for (int cloth = 0; cloth < 4; cloth++) {
            x = withBolts(cloth, 359, 400);
            x.cut(0, 360);
            x.cut(0, 179);
            x.cut(0, 0);
            x.cut(0, -180);
            x.cut(2, 180);
            due("told(0, 1)", x.told(0, 1), 359);
            due("told(1, 1)", x.told(1, 1), 400);
            due("count(2)", x.count(2), 0);
        }
    }

    private static void cutAtEnds() {
        says("Terms", "TO CUT a BOLT at a PLACE no more than its length: at its very end nothing is left");
        for (int cloth = 0; cloth < 4; cloth++) {
            WholeMarks x = withBolts(cloth, 180, 360);
            due("cut(0, 180)", x.cut(0, 180), 0);
            due("told(0, 1)", x.told(0, 1), 0);
            due("cut(1, 360)", x.cut(1, 360), 0);
            due("count(2)", x.count(2), 540);
        }
        says("Terms", "PLACES are counted anew on what is left");
        WholeMarks x = withBolts(LINEN, 541);
        due("cut(0, 180)", x.cut(0, 180), 361);
        due("told(0, 2)", x.told(0, 2), 360);
        due("cut(0, 360)", x.cut(0, 360), 1);
        x = withBolts(WOOL, 541);
        due("cut(0, 180) of WOOL", x.cut(0, 180), 360);
        due("cut(0, 180) of WOOL", x.cut(0, 180), 179);
        due("cut(0, 180) of WOOL", x.cut(0, 180), -2);
        due("told(0, 2)", x.told(0, 2), 0);
        says("Terms", "a PLACE by LAW 1 is one of any two");
        x = withBolts(LINEN, 400);
        x.rule(7, 1);
        due("cut(0, 90)", x.cut(0, 90), 310);
        due("cut(0, 45)", x.cut(0, 45), -2);
        due("cut(0, 270)", x.cut(0, 270), 40);
        says("Promise 9", "of the told BOLT alone");
        x = withBolts(LINEN, 200, 300);
        x.cut(1, 180);
        due("told(0, 1)", x.told(0, 1), 200);
        due("told(1, 1)", x.told(1, 1), 120);
    }

    private static void dueLeft(int cloth, int... left) {
        for (int more = 0; more < left.length; more++) {
            WholeMarks x = withBolts(cloth, 180 + more);
            due("cut of CLOTH " + cloth + ", " + more + " more", x.cut(0, 180), left[more]);
            due("told(0, 1)", x.told(0, 1), left[more]);
            due("count(2)", x.count(2), 180);
        }
    }

    private static void cutLoses() {
        says("Terms", "WOOL loses 1 inch more by each cut, of what is left, if there is any");
        dueLeft(WOOL, 0, 0, 1, 2);
        says("Terms", "FELT is below WOOL");
        dueLeft(FELT, 0, 0, 1, 2);
        says("Terms", "LINEN loses no inch more");
        dueLeft(LINEN, 0, 1, 2, 3);
        says("Terms", "SILK loses no inch more");
        dueLeft(SILK, 0, 1, 2, 3);
        says("Terms", "WOOL loses by each cut");
        WholeMarks x = everyInch(WOOL, 8);
        due("cut(0, 1)", x.cut(0, 1), 6);
        due("cut(0, 2)", x.cut(0, 2), 3);
        due("cut(0, 1)", x.cut(0, 1), 1);
        due("cut(0, 1)", x.cut(0, 1), 0);
        due("count(2): what is lost is not sold", x.count(2), 5);
    }

    private static void joinRefused() {
        says("Promise 10", "BAD: there is no such BOLT, as first or as second");
        due("join(0, 1) of none", new WholeMarks().join(0, 1), -1);
        WholeMarks x = withBolts(LINEN, 100, 200);
        for (int bolt : new int[] {2, 7, 8, -1, MIN, MAX}) {
            due("join(0, " + bolt + ")", x.join(0, bolt), -1);
            due("join(" + bolt + ", 0)", x.join(bolt, 0), -1);
        }
        says("Promise 10", "BAD: also one alike");
        due("join(0, 0)", x.join(0, 0), -1);
        due("join(1, 1)", x.join(1, 1), -1);
        due("join(2, 2)", x.join(2, 2), -1);
        due("join(-1, -1)", x.join(-1, -1), -1);
        due("join(0, 0) of none", new WholeMarks().join(0, 0), -1);
        says("Promise 10", "BAD is ahead of NOT");
        x = withBolts(LINEN, 180, 100);
        x.cut(0, 180);
        due("join(0, 0) of 0 inches", x.join(0, 0), -1);
        due("join(0, 2)", x.join(0, 2), -1);
        due("join(2, 0)", x.join(2, 0), -1);
        says("Promise 10", "NOT: unlike CLOTHS");
        for (int a = 0; a < 4; a++) {
            for (int b = 0; b < 4; b++) {
                x = new WholeMarks();
                x.bolt(a, 100);
                x.bolt(b, 100);
                due("join of CLOTHS " + a + ", " + b, x.join(0, 1), a != b ? -2 : a < 2 ? 198 : 200);
            }
        }
        says("Promise 10", "NOT: one is 0, the first, the second, or both");
        x = withBolts(LINEN, 180, 100, 180);
        x.cut(0, 180);
        due("join(0, 1)", x.join(0, 1), -2);
        due("join(1, 0)", x.join(1, 0), -2);
        x.cut(2, 180);
        due("join(0, 2)", x.join(0, 2), -2);
        says("Promise 10", "NOT is ahead of FULL");
        x = withBolts(LINEN, 99999);
        x.bolt(WOOL, 99999);
        due("join(0, 1)", x.join(0, 1), -2);
    }

    private static void joinChangesNothing() {
        says("Promise 10", "what is refused changes nothing");
        WholeMarks x = withBolts(LINEN, 99999, 3, 180);
        x.bolt(WOOL, 5);
        x.cut(2, 180);
        x.join(0, 0);
        x.join(0, 4);
        x.join(0, 2);
        x.join(2, 0);
        x.join(1, 3);
        x.join(0, 1);
        due("told(0, 1)", x.told(0, 1), 99999);
        due("told(1, 1)", x.told(1, 1), 3);
        due("told(2, 1)", x.told(2, 1), 0);
        due("told(3, 1)", x.told(3, 1), 5);
    }

    private static void dueJoined(int cloth, int seam, int first, int second, int joined) {
        WholeMarks x = withBolts(cloth, 7, second, first);
        x.seam(seam);
        String call = "join of " + first + " and " + second + " of CLOTH " + cloth + " with a SEAM of " + seam;
        due(call, x.join(2, 1), joined);
        due(call + ", the first", x.told(2, 1), joined);
        due(call + ", the second", x.told(1, 1), 0);
        due(call + ", another one", x.told(0, 1), 7);
    }

    private static void joinLengths() {
        says("Terms", "the first is as long as both, less a SEAM, the second is 0");
        dueJoined(LINEN, 2, 100, 200, 298);
        dueJoined(WOOL, 2, 100, 200, 298);
        dueJoined(LINEN, 0, 100, 200, 300);
        dueJoined(WOOL, 99, 100, 200, 201);
        says("Terms", "less a SEAM (0 at least): just above, at it, below");
        dueJoined(LINEN, 99, 50, 50, 1);
        dueJoined(LINEN, 99, 50, 49, 0);
        dueJoined(LINEN, 99, 49, 49, 0);
        dueJoined(WOOL, 99, 1, 1, 0);
        dueJoined(LINEN, 2, 1, 1, 0);
        dueJoined(LINEN, 2, 1, 2, 1);
        says("Terms", "a SEAM of SILK takes nothing");
        dueJoined(SILK, 2, 100, 200, 300);
        dueJoined(SILK, 99, 1, 1, 2);
        says("Terms", "a SEAM of FELT takes nothing, too");
        dueJoined(FELT, 2, 100, 200, 300);
        dueJoined(FELT, 99, 1, 1, 2);
        says("Promise 10", "what is joined to 0 inches stays a BOLT, and can't be joined again");
        WholeMarks x = withBolts(LINEN, 1, 1, 5);
        due("join(0, 1)", x.join(0, 1), 0);
        due("count(0)", x.count(0), 3);
        due("count(1)", x.count(1), 5);
        due("join(0, 2)", x.join(0, 2), -2);
        says("Promise 10", "what is joined is not sold, and no waste of its own");
        x = withBolts(SILK, 90, 90);
        x.join(0, 1);
        due("count(2)", x.count(2), 0);
        due("count(5)", x.count(5), 0);
    }

    private static void joinFull() {
        says("Promise 10", "FULL: above 99999, the SEAM taken off");
        int[] cloths = {LINEN, WOOL, SILK, FELT};
        for (int cloth : cloths) {
            int seam = cloth < SILK ? 2 : 0;
            due("99999 of CLOTH " + cloth, withBolts(cloth, 99998, 1 + seam).join(0, 1), 99999);
            due("100000 of CLOTH " + cloth, withBolts(cloth, 99998, 2 + seam).join(0, 1), -3);
            due("199998 less a SEAM of CLOTH " + cloth, withBolts(cloth, 99999, 99999).join(0, 1), -3);
        }
        says("Promise 10", "FULL by the SEAM of now");
        WholeMarks x = withBolts(LINEN, 99999, 99);
        x.seam(98);
        due("join(0, 1) with a SEAM of 98", x.join(0, 1), -3);
        x.seam(99);
        due("join(0, 1) with a SEAM of 99", x.join(0, 1), 99999);
    }

    private static void count() {
        says("Promise 13", "what is 0 .. 5: any other is BAD");
        for (int what : new int[] {-1, 6, 7, MIN, MAX}) {
            due("count(" + what + ")", new WholeMarks().count(what), -1);
        }
        says("Promise 13", "0 of all, where there is nothing yet");
        for (int what = 0; what <= 5; what++) {
            due("count(" + what + ")", new WholeMarks().count(what), 0);
        }
        says("Promise 13", "0 BOLTS: those of 0 inches too");
        WholeMarks x = withBolts(SILK, 180, 100, 100);
        x.cut(0, 180);
        x.join(1, 2);
        due("count(0)", x.count(0), 3);
        says("Promise 13", "1 inches in all: of all BOLTS as they are now");
        due("count(1)", x.count(1), 200);
        says("Promise 13", "2 inches sold so far: of all cuts");
        x = withBolts(WOOL, 400, 400);
        x.cut(0, 180);
        due("count(2)", x.count(2), 180);
        x.cut(1, 360);
        x.cut(0, 180);
        due("count(2)", x.count(2), 720);
        due("count(1)", x.count(1), 77);
        says("Promise 13", "3 BUYERS, 4 inches they WANT: of now");
        x = withBuyers(1, 9999);
        due("count(3)", x.count(3), 2);
        due("count(4)", x.count(4), 10000);
        x.home();
        x.buyer(7);
        due("count(3)", x.count(3), 1);
        due("count(4)", x.count(4), 7);
        says("Promise 13", "5 WASTE: of all BOLTS what is above the greatest PLACE in each");
        int[] waste = {179, 0, 1, 179, 0, 1};
        int[] lengths = {179, 180, 181, 359, 360, 361};
        for (int i = 0; i < lengths.length; i++) {
            due("count(5) of " + lengths[i], withBolts(LINEN, lengths[i]).count(5), waste[i]);
        }
        due("count(5) together", withBolts(SILK, lengths).count(5), 360);
        x = withBolts(FELT, 100, 91);
        x.rule(7, 1);
        due("count(5) by LAW 1", x.count(5), 11);
        x.cut(0, 90);
        due("count(5) of what is left", x.count(5), 10);
    }

    private static void countMost() {
        says("Promise 13", "as much as there can be");
        WholeMarks x = withBolts(LINEN, 99999, 99999, 99999, 99999, 99999, 99999, 99999, 99999);
        for (int b = 0; b < 7; b++) {
            x.buyer(9999);
        }
        due("count(0)", x.count(0), 8);
        due("count(1)", x.count(1), 799992);
        due("count(3)", x.count(3), 6);
        due("count(4)", x.count(4), 59994);
        due("count(5)", x.count(5), 792);
        x.measure(0, 999);
        x.measure(1, 998);
        due("count(5): no PLACE in any", x.count(5), 799992);
        x.measure(0, 1);
        x.measure(1, 1);
        for (int b = 0; b < 8; b++) {
            x.cut(b, 99999);
        }
        due("count(2)", x.count(2), 799992);
        due("count(1)", x.count(1), 0);
        due("count(5)", x.count(5), 0);
    }
}
