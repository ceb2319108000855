/** Each sentence with a boundary case in promises 19 to 25, and in the terms that they stand on. */
public final class CoinsSentencesTest extends Sentences {
    public static void main(String[] args) {
        third();
        thirdWaste();
        wornRefused();
        wornWhere();
        rate();
        ringsRefused();
        ringsGain();
        ringsFirst();
        turnRefused();
        turnMost();
        turnFirst();
        image();
        restore();
        restoreLeaves();
        tellAndExit();
    }

    // ---- third, worn

    private static void third() {
        says("Promise 19", "the MEASURE (0), WASTE by it (1): any other is BAD");
        for (int what : new int[] {-1, 2, 3, MIN, MAX}) {
            due("third(" + what + ")", new WholeMarks().third(what), -1);
            due("third(" + what + ") of some", withBolts(0, 400).third(what), -1);
        }
        says("Terms", "of like ones the least: where there are no BOLTS, none that waste, none that don't");
        due("third(0) of none", new WholeMarks().third(0), 1);
        due("third(1) of none", new WholeMarks().third(1), 0);
        due("third(0) of 180", withBolts(0, 180).third(0), 1);
        due("third(1) of 180", withBolts(0, 180).third(1), 0);
        due("third(0) of 29", withBolts(0, 29).third(0), 1);
        due("third(1) of 29", withBolts(0, 29).third(1), 29);
        says("Terms", "of like ones the least: also where the TOWNS measure by 1");
        WholeMarks x = withBolts(0, 7, 11);
        x.measure(0, 1);
        x.measure(1, 1);
        due("third(0)", x.third(0), 1);
        due("third(1)", x.third(1), 0);
        x.measure(1, 4);
        due("third(0)", x.third(0), 1);
        due("third(1)", x.third(1), 0);
        says("Promise 19", "nothing is changed by it");
        x = withBolts(0, 400);
        x.rule(6, 0);
        x.third(0);
        x.third(1);
        due("count(5)", x.count(5), 40);
        due("measure(2, 1)", x.measure(2, 1), 45);
        due("rule(3, 0)", x.rule(3, 0), 60);
    }

    private static void thirdWaste() {
        says("Terms", "WASTE by it: just below a PLACE, at it, just above");
        int[] lengths = {29, 30, 31, 35, 36, 37, 59, 60, 61, 71, 72, 73, 99999};
        int[] waste = {29, 0, 1, 5, 0, 1, 23, 0, 1, 11, 0, 1, 9};
        for (int i = 0; i < lengths.length; i++) {
            due("third(1) of " + lengths[i], withBolts(i % 4, lengths[i]).third(1), waste[i]);
        }
        says("Terms", "of all BOLTS together");
        WholeMarks x = withBolts(2, 29, 30, 31, 35, 36, 37, 59);
        due("third(1)", x.third(1), 59);
        x.bolt(0, 99999);
        due("third(1)", x.third(1), 68);
        says("Terms", "all three COUNTING by LAW 1, whichever COUNT and whatever TOWN 2 measures now");
        for (int set : new int[] {3, 5, 6, 7}) {
            for (int law = 0; law < 2; law++) {
                x = withMeasures(50, 70, 999, set, law);
                x.bolt(0, 69);
                x.bolt(0, 71);
                due("third(0) of the set " + set + ", LAW " + law, x.third(0), 1);
                due("third(1) of the set " + set + ", LAW " + law, x.third(1), 20);
            }
        }
        says("Promise 19", "as much WASTE as there can be");
        x = withMeasures(999, 998, 1, 3, 0);
        for (int b = 0; b < 8; b++) {
            x.bolt(0, 997);
        }
        due("third(0)", x.third(0), 1);
        due("third(1)", x.third(1), 7976);
    }

    private static void wornRefused() {
        says("Promise 20", "up to s inches (0 .. 9): just outside is BAD");
        for (int s : new int[] {-1, 10, -2, 11, MIN, MAX}) {
            due("worn(" + s + ")", new WholeMarks().worn(s), -1);
        }
        says("Promise 20", "up to s inches (0 .. 9): just inside");
        due("worn(0)", new WholeMarks().worn(0), 5);
        due("worn(9)", new WholeMarks().worn(9), 1);
        says("Terms", "less than either MEASURE: as much as one is BAD");
        for (int v = 1; v <= 10; v++) {
            for (int s = 0; s <= 9; s++) {
                due("worn(" + s + ") of TOWN 0 with " + v, withMeasures(v, 500, 1, 3, 0).worn(s) == -1 ? 1 : 0, s >= v ? 1 : 0);
                due("worn(" + s + ") of TOWN 1 with " + v, withMeasures(500, v, 1, 3, 0).worn(s) == -1 ? 1 : 0, s >= v ? 1 : 0);
            }
        }
        says("Terms", "poles of TOWNS 0 and 1: TOWN 2 is not asked, nor which COUNT");
        due("worn(9)", withMeasures(36, 30, 1, 6, 1).worn(9), 1);
        due("worn(0)", withMeasures(36, 30, 1, 6, 1).worn(0), 5);
        says("Promise 20", "nothing is changed by it");
        WholeMarks x = new WholeMarks();
        x.worn(9);
        x.worn(10);
        due("place(1)", x.place(1), 180);
    }

    private static void wornWhere() {
        says("Terms", "a MARK of 0 inches worn is one length: the least j that meets");
        due("worn(0) of 36 and 30", withMeasures(36, 30, 45, 3, 0).worn(0), 5);
        due("worn(0) of 30 and 36", withMeasures(30, 36, 45, 3, 0).worn(0), 6);
        due("worn(0) of 7 and 7", withMeasures(7, 7, 45, 3, 0).worn(0), 1);
        due("worn(0) of 14 and 7", withMeasures(14, 7, 45, 3, 0).worn(0), 1);
        due("worn(0) of 7 and 14", withMeasures(7, 14, 45, 3, 0).worn(0), 2);
        due("worn(0) of 1 and 1", withMeasures(1, 1, 45, 3, 0).worn(0), 1);
        due("worn(0) of 1 and 999", withMeasures(1, 999, 45, 3, 0).worn(0), 999);
        due("worn(0) of 999 and 1", withMeasures(999, 1, 45, 3, 0).worn(0), 1);
        says("Terms", "the least j, as great as it can be");
        due("worn(0) of 998 and 999", withMeasures(998, 999, 45, 3, 0).worn(0), 999);
        due("worn(0) of 999 and 998", withMeasures(999, 998, 45, 3, 0).worn(0), 998);
        says("Terms", "from j times the least length: where the MARKS touch at its end");
        // 30 .. 36 and 24 .. 30; an inch less worn, 31 .. 36 and 25 .. 30, not yet
        due("worn(6) of 36 and 30", withMeasures(36, 30, 45, 3, 0).worn(6), 1);
        due("worn(5) of 36 and 30", withMeasures(36, 30, 45, 3, 0).worn(5), 3);
        // 18 .. 20 and 14 .. 18; an inch less worn, 19 .. 20 and 16 .. 18, 24 .. 27 not yet, 38 .. 40 and 40 .. 45
        due("worn(2) of 20 and 9", withMeasures(20, 9, 45, 3, 0).worn(2), 1);
        due("worn(1) of 20 and 9", withMeasures(20, 9, 45, 3, 0).worn(1), 2);
        says("Terms", "to j times its MEASURE: where the MARKS touch at its end");
        // 24 .. 30 and 30 .. 36; an inch less worn, 25 .. 30 and 31 .. 36, not yet
        due("worn(6) of 30 and 36", withMeasures(30, 36, 45, 3, 0).worn(6), 1);
        due("worn(5) of 30 and 36", withMeasures(30, 36, 45, 3, 0).worn(5), 4);
        // 40 .. 50 and 48 .. 50; 5 .. 50 and 41 .. 50; 4 .. 40 and 40 .. 49
        due("worn(2) of 10 and 50", withMeasures(10, 50, 45, 3, 0).worn(2), 5);
        due("worn(9) of 10 and 50", withMeasures(10, 50, 45, 3, 0).worn(9), 5);
        due("worn(9) of 10 and 49", withMeasures(10, 49, 45, 3, 0).worn(9), 4);
        says("Terms", "a MARK can be where one of TOWN 1 is, whichever of hers");
        due("worn(1) of 100 and 7", withMeasures(100, 7, 45, 3, 0).worn(1), 1);
        due("worn(1) of 999 and 999", withMeasures(999, 999, 45, 3, 0).worn(1), 1);
        due("worn(1) of 500 and 999", withMeasures(500, 999, 45, 3, 0).worn(1), 2);
        // 201 times 497 .. 498 and 100 times 998 .. 999: 99897 .. 100098 and 99800 .. 99900
        due("worn(1) of 498 and 999", withMeasures(498, 999, 45, 3, 0).worn(1), 201);
    }

    // ---- rate

    private static void rate() {
        says("Promise 21", "100 times what was above, and what was below");
        WholeMarks x = new WholeMarks();
        due("rate(0, 1, 2, 3)", x.rate(0, 1, 2, 3), 101);
        due("rate(0, 1, 98, 1)", x.rate(0, 1, 98, 1), 203);
        due("rate(0, 1, 1, 98)", x.rate(0, 1, 1, 98), 9801);
        due("rate(0, 1, 1, 1)", x.rate(0, 1, 1, 1), 198);
        says("Terms", "above, below 1 .. 99: just inside");
        due("rate(2, 3, 99, 99)", x.rate(2, 3, 99, 99), 101);
        due("rate(2, 3, 1, 99)", x.rate(2, 3, 1, 99), 9999);
        due("rate(2, 3, 99, 1)", x.rate(2, 3, 99, 1), 199);
        due("rate(2, 3, 1, 1)", x.rate(2, 3, 1, 1), 9901);
        says("Terms", "above, below 1 .. 99: just outside is BAD");
        for (int v : new int[] {0, 100, -1, 101, MIN, MAX}) {
            due("rate(0, 1, " + v + ", 1)", new WholeMarks().rate(0, 1, v, 1), -1);
            due("rate(0, 1, 1, " + v + ")", new WholeMarks().rate(0, 1, 1, v), -1);
        }
        says("Terms", "COINS 0 .. 3: any other is BAD");
        for (int coin : new int[] {-1, 4, 5, MIN, MAX}) {
            for (int other = 0; other < 4; other++) {
                due("rate(" + coin + ", " + other + ")", new WholeMarks().rate(coin, other, 1, 1), -1);
                due("rate(" + other + ", " + coin + ")", new WholeMarks().rate(other, coin, 1, 1), -1);
            }
        }
        says("Promise 21", "BAD: also one alike");
        for (int coin = -1; coin <= 4; coin++) {
            due("rate(" + coin + ", " + coin + ")", new WholeMarks().rate(coin, coin, 1, 1), -1);
        }
        says("Promise 21", "of a COIN to another one: each way, each two, has a RATE of its own");
        x = new WholeMarks();
        for (int time = 0; time < 2; time++) {
            for (int from = 0; from < 4; from++) {
                for (int to = 0; to < 4; to++) {
                    int was = time == 0 ? 101 : 100 * (10 + from) + 20 + to;
                    if (from != to) {
                        due("rate(" + from + ", " + to + ")", x.rate(from, to, 10 + from, 20 + to), was);
                    }
                }
            }
        }
        says("Promise 21", "what is refused changes nothing");
        x = new WholeMarks();
        x.rate(0, 1, 5, 0);
        x.rate(0, 1, 5, 100);
        x.rate(0, 1, 0, 5);
        x.rate(0, 1, 100, 5);
        x.rate(1, 1, 5, 5);
        x.rate(0, 4, 5, 5);
        x.rate(1, -1, 5, 5);
        for (int from = 0; from < 4; from++) {
            for (int to = 0; to < 4; to++) {
                if (from != to) {
                    due("rate(" + from + ", " + to + ", 1, 1)", x.rate(from, to, 1, 1), 101);
                }
            }
        }
    }

    // ---- rings

    /** Where all RATES but the told ones are poor: rows of from, to, above, below. */
    private static WholeMarks withRates(int... rates) {
        WholeMarks x = new WholeMarks();
        for (int from = 0; from < 4; from++) {
            for (int to = 0; to < 4; to++) {
                x.rate(from, to, 1, 99);
            }
        }
        for (int i = 0; i + 3 < rates.length; i += 4) {
            x.rate(rates[i], rates[i + 1], rates[i + 2], rates[i + 3]);
        }
        return x;
    }

    private static void ringsRefused() {
        says("Promise 22", "how many (0), the first (1): any other is BAD");
        for (int what : new int[] {-1, 2, 3, MIN, MAX}) {
            due("rings(" + what + ")", new WholeMarks().rings(what), -1);
        }
        says("Promise 22", "NONE: there are none (1); how many is 0 then");
        dueRings(new WholeMarks(), 0, -4);
        dueRings(withRates(), 0, -4);
    }

    private static void ringsGain() {
        says("Terms", "it GAINS, if its RATES multiplied are more than 1: as much as 1 is not more");
        dueRings(withRates(0, 1, 2, 1, 1, 0, 1, 2), 0, -4);
        dueRings(withRates(0, 1, 99, 99, 1, 0, 99, 99), 0, -4);
        dueRings(withRates(0, 1, 3, 2, 1, 2, 4, 3, 2, 0, 1, 2), 0, -4);
        dueRings(withRates(0, 1, 99, 98, 1, 2, 98, 97, 2, 3, 97, 96, 3, 0, 96, 99), 0, -4);
        says("Terms", "it GAINS, if its RATES multiplied are more than 1, be it ever so little");
        dueRings(withRates(0, 1, 98, 97, 1, 0, 98, 99), 1, 12);
        dueRings(withRates(0, 1, 97, 98, 1, 0, 99, 98), 0, -4);
        dueRings(withRates(0, 1, 99, 98, 1, 0, 1, 1), 1, 12);
        dueRings(withRates(0, 1, 99, 98, 1, 2, 98, 97, 2, 3, 97, 96, 3, 0, 96, 98), 1, 1234);
        says("Terms", "RATES multiplied, not changed one by one and cut");
        dueRings(withRates(0, 1, 1, 2, 1, 0, 99, 49), 1, 12);
        dueRings(withRates(0, 1, 1, 2, 1, 2, 1, 2, 2, 3, 2, 1, 3, 0, 2, 1), 0, -4);
        says("Terms", "a RING: 2 to 4 unlike COINS, told from their least COIN on: each once");
        WholeMarks x = new WholeMarks();
        for (int from = 0; from < 4; from++) {
            for (int to = 0; to < 4; to++) {
                x.rate(from, to, 99, 98);
            }
        }
        dueRings(x, 20, 12);
        dueRings(withRates(0, 1, 99, 1, 1, 0, 99, 1, 2, 3, 99, 1, 3, 2, 99, 1), 2, 12);
        says("Terms", "as much as RATES can be");
        dueRings(withRates(0, 1, 99, 1, 1, 2, 99, 1, 2, 3, 99, 1, 3, 0, 99, 1), 5, 123);
        dueRings(withRates(0, 3, 99, 1, 3, 2, 99, 1, 2, 1, 99, 1, 1, 0, 99, 1), 5, 132);
    }

    private static void ringsFirst() {
        says("Terms", "changed each to the next, the last to the first");
        dueRings(withRates(0, 1, 3, 2, 1, 2, 3, 2, 2, 0, 3, 2), 1, 123);
        dueRings(withRates(0, 2, 3, 2, 2, 1, 3, 2, 1, 0, 3, 2), 1, 132);
        says("Terms", "told from their least COIN on");
        dueRings(withRates(3, 1, 3, 2, 1, 2, 3, 2, 2, 3, 3, 2), 1, 234);
        dueRings(withRates(3, 2, 3, 2, 2, 1, 3, 2, 1, 3, 3, 2), 1, 243);
        dueRings(withRates(3, 2, 3, 2, 2, 3, 3, 2), 1, 34);
        dueRings(withRates(3, 2, 3, 2, 2, 1, 3, 2, 1, 0, 3, 2, 0, 3, 3, 2), 1, 1432);
        dueRings(withRates(2, 1, 3, 2, 1, 3, 3, 2, 3, 0, 3, 2, 0, 2, 3, 2), 1, 1324);
        says("Terms", "the first: fewer COINS first");
        dueRings(withRates(2, 3, 3, 2, 3, 2, 3, 2, 0, 1, 3, 2, 1, 2, 3, 2, 2, 0, 3, 2), 2, 34);
        dueRings(withRates(1, 2, 3, 2, 2, 3, 3, 2, 3, 1, 3, 2, 0, 1, 9, 2, 3, 0, 9, 2), 2, 234);
        says("Terms", "the first: then by numbers");
        dueRings(withRates(0, 3, 3, 2, 3, 0, 3, 2, 1, 2, 3, 2, 2, 1, 3, 2), 2, 14);
        dueRings(withRates(0, 1, 3, 2, 1, 3, 3, 2, 3, 0, 3, 2, 0, 2, 3, 2, 2, 1, 3, 2, 1, 0, 1, 2), 3, 124);
        dueRings(withRates(1, 3, 3, 2, 3, 1, 3, 2, 2, 3, 3, 2, 3, 2, 3, 2), 2, 24);
        says("Terms", "as digits, each the COIN and 1");
        dueRings(withRates(0, 2, 3, 2, 2, 0, 3, 2), 1, 13);
        dueRings(withRates(1, 3, 3, 2, 3, 1, 3, 2), 1, 24);
        dueRings(withRates(0, 1, 3, 2, 1, 3, 3, 2, 3, 0, 3, 2), 1, 124);
    }

    // ---- turn

    private static void turnRefused() {
        WholeMarks x = new WholeMarks();
        says("Promise 23", "a COIN 0 .. 3: any other is BAD");
        for (int coin : new int[] {-1, 4, 5, MIN, MAX}) {
            due("turn(" + coin + ", 5, 2, 0)", x.turn(coin, 5, 2, 0), -1);
        }
        says("Promise 23", "n (0 .. 999999): just inside");
        due("turn(0, 0, 2, -1)", x.turn(0, 0, 2, -1), 0);
        due("turn(0, 1, 2, -1)", x.turn(0, 1, 2, -1), 1);
        due("turn(0, 999999, 2, -1)", x.turn(0, 999999, 2, -1), 999999);
        says("Promise 23", "n (0 .. 999999): just outside is BAD");
        for (int n : new int[] {-1, 1000000, -2, 1000001, MIN, MAX}) {
            due("turn(0, " + n + ", 2, -1)", x.turn(0, n, 2, -1), -1);
        }
        says("Promise 23", "k changes (1 .. 5): just inside");
        due("turn(0, 5, 1, -1)", x.turn(0, 5, 1, -1), -4);
        due("turn(0, 5, 2, -1)", x.turn(0, 5, 2, -1), 5);
        due("turn(0, 5, 5, -1)", x.turn(0, 5, 5, -1), 5);
        says("Promise 23", "k changes (1 .. 5): just outside is BAD");
        for (int k : new int[] {0, 6, -1, 7, MIN, MAX}) {
            due("turn(0, 5, " + k + ", -1)", x.turn(0, 5, k, -1), -1);
            due("turn(0, 5, " + k + ", 0)", x.turn(0, 5, k, 0), -1);
        }
        says("Promise 23", "the most (-1), the i-th change (0 .. k - 1): just outside is BAD");
        for (int k = 1; k <= 5; k++) {
            for (int i : new int[] {-2, k, k + 1, MIN, MAX}) {
                due("turn(0, 5, " + k + ", " + i + ")", x.turn(0, 5, k, i), -1);
            }
        }
        says("Promise 23", "the most (-1), the i-th change (0 .. k - 1): just inside; the last is back to it");
        for (int k = 2; k <= 5; k++) {
            for (int coin = 0; coin < 4; coin++) {
                due("turn(" + coin + ", 5, " + k + ", 0)", x.turn(coin, 5, k, 0), coin == 0 ? 1 : 0);
                due("turn(" + coin + ", 5, " + k + ", last)", x.turn(coin, 5, k, k - 1), coin);
            }
        }
        says("Promise 23", "NONE: k is 1");
        for (int coin = 0; coin < 4; coin++) {
            due("turn(" + coin + ", 0, 1, -1)", x.turn(coin, 0, 1, -1), -4);
            due("turn(" + coin + ", 999999, 1, 0)", x.turn(coin, 999999, 1, 0), -4);
        }
        says("Promise 23", "BAD is ahead of NONE");
        due("turn(4, 5, 1, 0)", x.turn(4, 5, 1, 0), -1);
        due("turn(0, -1, 1, 0)", x.turn(0, -1, 1, 0), -1);
        due("turn(0, 1000000, 1, 0)", x.turn(0, 1000000, 1, 0), -1);
        due("turn(0, 5, 1, 1)", x.turn(0, 5, 1, 1), -1);
        due("turn(0, 5, 1, -2)", x.turn(0, 5, 1, -2), -1);
    }

    private static void turnMost() {
        says("Terms", "n of it are n times above by below, cut: at each change");
        WholeMarks x = withRates(0, 1, 1, 2, 1, 0, 2, 1);
        dueTurn(x, 0, 6, 6, 1, 0);
        dueTurn(x, 0, 7, 6, 1, 0);
        dueTurn(x, 0, 1, 0, 1, 0);
        dueTurn(x, 1, 7, 7, 0, 1);
        x = withRates(0, 1, 2, 3, 1, 0, 3, 2);
        dueTurn(x, 0, 8, 7, 1, 0);
        dueTurn(x, 0, 9, 9, 1, 0);
        says("Terms", "the most there can be then, by its own number: what is cut tells");
        // by the second coin 5 of 5, of 4 only 3; by the third 4 of 4
        x = withRates(0, 1, 1, 5, 1, 0, 5, 1, 0, 2, 1, 1, 2, 0, 9, 10);
        dueTurn(x, 0, 5, 5, 1, 0);
        dueTurn(x, 0, 4, 3, 2, 0);
        says("Terms", "each to another one: a COIN is not kept for a change");
        dueTurn(withRates(0, 1, 2, 1, 1, 0, 2, 1), 0, 9, 36, 1, 0);
        dueTurn(withRates(0, 1, 10, 1, 1, 0, 10, 1, 1, 2, 1, 2, 2, 0, 1, 2), 0, 4, 10, 1, 2, 0);
        says("Terms", "more than an int");
        x = new WholeMarks();
        for (int from = 0; from < 4; from++) {
            for (int to = 0; to < 4; to++) {
                x.rate(from, to, 99, 1);
            }
        }
        dueTurn(x, 0, 999999, 9509890989099501L, 1, 0, 1, 2, 0);
        dueTurn(x, 3, 999999, 96059504940399L, 0, 1, 0, 3);
        says("Terms", "0 of a COIN stay 0");
        dueTurn(x, 0, 0, 0, 1, 0);
        dueTurn(x, 2, 0, 0, 0, 1, 0, 1, 2);
    }

    private static void turnFirst() {
        says("Terms", "of like ones the first row");
        WholeMarks x = new WholeMarks();
        dueTurn(x, 0, 7, 7, 1, 0);
        dueTurn(x, 1, 7, 7, 0, 1);
        dueTurn(x, 2, 7, 7, 0, 2);
        dueTurn(x, 0, 7, 7, 1, 2, 0);
        dueTurn(x, 1, 7, 7, 0, 2, 1);
        dueTurn(x, 2, 7, 7, 0, 1, 2);
        dueTurn(x, 3, 7, 7, 0, 1, 3);
        dueTurn(x, 0, 7, 7, 1, 0, 1, 0);
        dueTurn(x, 3, 7, 7, 0, 1, 0, 3);
        dueTurn(x, 0, 7, 7, 1, 0, 1, 2, 0);
        dueTurn(x, 1, 7, 7, 0, 1, 0, 2, 1);
        says("Terms", "of like ones the first row: of two that gain alike");
        dueTurn(withRates(0, 3, 2, 1, 3, 0, 1, 1, 0, 2, 1, 1, 2, 0, 2, 1), 0, 7, 14, 2, 0);
        dueTurn(withRates(0, 3, 2, 1, 3, 2, 1, 1, 2, 0, 1, 1, 0, 2, 1, 1, 2, 3, 2, 1, 3, 0, 1, 1), 0, 7, 14, 2, 3, 0);
        says("Promise 23", "nothing is changed by it");
        due("rate(0, 1, 1, 1)", x.rate(0, 1, 1, 1), 101);
        due("turn(0, 7, 2, -1)", x.turn(0, 7, 2, -1), 7);
    }

    // ---- image, restore

    private static void image() {
        says("Promise 24", "kept as an IMAGE: 1; nothing else is changed by it");
        WholeMarks x = withAll();
        due("image()", x.image(), 1);
        dueAllOfIt(x);
        due("image() of a new object", new WholeMarks().image(), 1);
        says("Promise 24", "an IMAGE is of one object, and of its time: what comes behind it is not in it");
        x = withAll();
        x.image();
        changeAll(x);
        x.restore();
        dueAllOfIt(x);
        due("bolt(0, 1)", x.bolt(0, 1), 2);
        due("buyer(1)", x.buyer(1), 2);
        due("restore() of another object", new WholeMarks().restore(), -4);
        says("Promise 24", "a later IMAGE takes the place of an earlier one");
        x = withAll();
        changeAll(x);
        x.image();
        x.restore();
        due("count(0)", x.count(0), 4);
        x = new WholeMarks();
        x.image();
        x.bolt(0, 7);
        due("image()", x.image(), 1);
        x.bolt(0, 8);
        due("restore()", x.restore(), 1);
        due("count(1)", x.count(1), 7);
        says("Promise 24", "an IMAGE of nothing yet: no BOLT, no BUYER, as at first");
        x = new WholeMarks();
        x.image();
        changeAll(x);
        x.restore();
        due("count(0)", x.count(0), 0);
        due("count(2)", x.count(2), 0);
        due("count(3)", x.count(3), 0);
        due("seam(2)", x.seam(2), 2);
        due("place(1)", x.place(1), 180);
        due("rate(0, 1, 1, 1)", x.rate(0, 1, 1, 1), 101);
        says("Promise 24", "an IMAGE of all that is full");
        x = withBolts(0, 1, 2, 3, 4, 5, 6, 7, 8);
        for (int b = 1; b <= 6; b++) {
            x.buyer(b);
        }
        x.image();
        x.join(7, 6);
        x.join(5, 0);
        x.home();
        x.restore();
        for (int b = 0; b < 8; b++) {
            due("told(" + b + ", 1)", x.told(b, 1), b + 1);
        }
        due("count(4)", x.count(4), 21);
        due("bolt(0, 9)", x.bolt(0, 9), -3);
        due("buyer(9)", x.buyer(9), -3);
    }

    private static void restore() {
        says("Promise 25", "NONE: there is none; and nothing is changed");
        WholeMarks x = withAll();
        due("restore()", x.restore(), -4);
        due("restore() again", x.restore(), -4);
        dueAllOfIt(x);
        says("Promise 25", "all is as it was then: 1");
        x = withAll();
        x.image();
        changeAll(x);
        due("restore()", x.restore(), 1);
        dueAllOfIt(x);
        says("Promise 25", "as it was then, as often as it is asked");
        due("restore() with no change", x.restore(), 1);
        dueAllOfIt(x);
        changeAll(x);
        due("restore() again", x.restore(), 1);
        dueAllOfIt(x);
        says("Promise 25", "what is sold is as it was then, be it more or less");
        x = withBolts(0, 400);
        x.cut(0, 180);
        x.image();
        x.cut(0, 180);
        due("count(2)", x.count(2), 360);
        x.restore();
        due("count(2)", x.count(2), 180);
        due("cut(0, 180)", x.cut(0, 180), 40);
        says("Promise 25", "TOWNS that were read from THE TAPE are as they were then");
        x = new WholeMarks();
        x.image();
        read(x, "1,2,3;012t");
        x.restore();
        due("rule(3, 0)", x.rule(3, 0), 30);
        due("measure(0, 1)", x.measure(0, 1), 36);
        due("measure(2, 1)", x.measure(2, 1), 45);
        says("Promise 25", "BUYERS that went home are there again, those who came are not");
        x = withBuyers(5, 6);
        x.image();
        x.home();
        x.buyer(7);
        x.buyer(8);
        x.buyer(9);
        x.restore();
        due("count(3)", x.count(3), 2);
        due("count(4)", x.count(4), 11);
    }

    private static void restoreLeaves() {
        says("Promise 24", "all but THE TAPE: it stays as it is now");
        WholeMarks x = new WholeMarks();
        write(x, "1,2");
        x.image();
        write(x, ",3");
        x.restore();
        due("type(' ', 1)", x.type(' ', 1), 6);
        x.towns();
        x.restore();
        due("type(' ', 1) behind towns()", x.type(' ', 1), 1);
        says("Promise 24", "all but SHEETS: they stay as they are now, rows, LANES, items, and what holds nothing");
        x = new WholeMarks();
        fill(x, 0, INTS, 5, 6);
        fill(x, 1, LONGS, 7);
        fill(x, 3, SHORTS, 8, 9);
        x.image();
        x.item(0, INTS, 1, 60);
        x.drop(1);
        fill(x, 2, SHORTS, 70);
        fill(x, 3, LONGS, 80);
        x.restore();
        dueItems(x, 0, INTS, 5, 60);
        dueItems(x, 2, SHORTS, 70);
        dueItems(x, 3, LONGS, 80);
        due("drop(0)", x.drop(0), 2);
        due("drop(1)", x.drop(1), -11);
        due("drop(2)", x.drop(2), 1);
        due("drop(3)", x.drop(3), 1);
    }
}
