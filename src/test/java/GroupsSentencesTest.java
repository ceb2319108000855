/** Each sentence with a boundary case in promises 14 to 18, and in the terms that they stand on. */
public final class GroupsSentencesTest extends Sentences {
    private static final int LINEN = 0;
    private static final int WOOL = 1;
    private static final int SILK = 2;
    private static final int FELT = 3;

    public static void main(String[] args) {
        mostRefused();
        mostWhich();
        mostLengths();
        mostLike();
        mostLarge();
        mostChangesNothing();
        buyer();
        home();
        priceRefused();
        priceWhere();
        partiesRefused();
        partiesOfSome();
        partiesLike();
        tellAndExit();
    }

    // ---- most

    private static void mostRefused() {
        WholeMarks x = withBolts(LINEN, 180, 180, 180, 180, 180, 180, 180, 180);
        says("Promise 14", "a CLOTH 0 .. 3: any other is BAD");
        for (int cloth : new int[] {-1, 4, 5, MIN, MAX}) {
            due("most(" + cloth + ", -1)", x.most(cloth, -1), -1);
            due("most(" + cloth + ", 0)", x.most(cloth, 0), -1);
        }
        says("Promise 14", "inches (-1), the i-th BOLT (0 .. 7): any other is BAD");
        for (int i : new int[] {-2, 8, -3, 9, MIN, MAX}) {
            due("most(0, " + i + ")", x.most(LINEN, i), -1);
        }
        says("Promise 14", "inches (-1), the i-th BOLT (0 .. 7): just inside");
        due("most(0, -1)", x.most(LINEN, -1), 1440);
        due("most(0, 0)", x.most(LINEN, 0), 0);
        due("most(0, 7)", x.most(LINEN, 7), 7);
        says("Promise 14", "BAD is ahead of NONE");
        due("most(4, 0) of none", new WholeMarks().most(4, 0), -1);
        due("most(0, 8) of none", new WholeMarks().most(LINEN, 8), -1);
        due("most(0, -2) of none", new WholeMarks().most(LINEN, -2), -1);
        says("Promise 14", "NONE: there is no i-th, where there are none at all");
        for (int cloth = 0; cloth < 4; cloth++) {
            dueMost(new WholeMarks(), cloth, 0);
        }
        says("Promise 14", "NONE: there is no i-th: just behind the last");
        for (int bolts = 1; bolts <= 7; bolts++) {
            x = new WholeMarks();
            for (int b = 0; b < bolts; b++) {
                x.bolt(SILK, 180);
            }
            due("most(2, " + (bolts - 1) + ") of " + bolts, x.most(SILK, bolts - 1), bolts - 1);
            due("most(2, " + bolts + ") of " + bolts, x.most(SILK, bolts), -4);
        }
    }

    private static void mostWhich() {
        says("Terms", "its BOLTS (above 0): one of 0 inches is not in the row");
        WholeMarks x = withBolts(SILK, 180, 100, 180, 80, 180);
        x.cut(0, 180);
        x.cut(2, 180);
        x.cut(4, 180);
        dueMost(x, SILK, 180, 0, 0);
        x.join(1, 3);
        dueMost(x, SILK, 180, 0);
        x.cut(1, 180);
        dueMost(x, SILK, 0);
        says("Terms", "its BOLTS: of this CLOTH, not of one below it");
        x = new WholeMarks();
        x.bolt(FELT, 90);
        x.bolt(WOOL, 92);
        x.bolt(LINEN, 100);
        x.bolt(SILK, 80);
        x.bolt(FELT, 90);
        x.bolt(LINEN, 100);
        dueMost(x, LINEN, 180, 0, 0);
        dueMost(x, WOOL, 0, 0);
        dueMost(x, SILK, 0, 0);
        dueMost(x, FELT, 180, 0, 0);
        says("Terms", "of BOLTS by numbers: the row is theirs, as they come");
        x = new WholeMarks();
        int[] lengths = {100, 360, 80, 180};
        for (int length : lengths) {
            x.bolt(LINEN, 7);
            x.bolt(SILK, length);
        }
        dueMost(x, SILK, 720, 0, 1, 0, 2);
    }

    private static void mostLengths() {
        says("Terms", "of each the greatest PLACE in its length: just below it, at it, just above");
        dueMost(withBolts(SILK, 89, 90), SILK, 0, 0, 1);
        dueMost(withBolts(SILK, 90, 90), SILK, 180, 0, 0);
        dueMost(withBolts(SILK, 90, 91), SILK, 180, 0, 0);
        dueMost(withBolts(SILK, 179), SILK, 0, 0);
        dueMost(withBolts(SILK, 180), SILK, 180, 0);
        says("Terms", "less a SEAM for each but the first");
        dueMost(withBolts(LINEN, 91, 90), LINEN, 0, 0, 1);
        dueMost(withBolts(LINEN, 91, 91), LINEN, 180, 0, 0);
        dueMost(withBolts(LINEN, 61, 61, 61), LINEN, 0, 0, 1, 2);
        dueMost(withBolts(LINEN, 61, 62, 61), LINEN, 180, 0, 0, 0);
        dueMost(withBolts(WOOL, 61, 61, 61), WOOL, 0, 0, 1, 2);
        dueMost(withBolts(WOOL, 61, 62, 61), WOOL, 180, 0, 0, 0);
        says("Terms", "a SEAM of SILK and of FELT takes nothing");
        dueMost(withBolts(SILK, 60, 60, 60), SILK, 180, 0, 0, 0);
        dueMost(withBolts(FELT, 60, 60, 60), FELT, 180, 0, 0, 0);
        dueMost(withBolts(SILK, 60, 60, 59), SILK, 0, 0, 1, 2);
        dueMost(withBolts(FELT, 60, 60, 59), FELT, 0, 0, 1, 2);
        says("Terms", "the SEAM of now, 0 and 99 too");
        WholeMarks x = withBolts(LINEN, 90, 90);
        dueMost(x, LINEN, 0, 0, 1);
        x.seam(0);
        dueMost(x, LINEN, 180, 0, 0);
        x = withBolts(LINEN, 139, 140);
        x.seam(99);
        dueMost(x, LINEN, 180, 0, 0);
        x = withBolts(LINEN, 139, 139);
        x.seam(99);
        dueMost(x, LINEN, 0, 0, 1);
        says("Terms", "0 at least: a group that its SEAMS would take is no less than nothing");
        x = withBolts(LINEN, 1, 1, 1, 180);
        x.seam(99);
        dueMost(x, LINEN, 180, 0, 1, 2, 3);
        x = withBolts(LINEN, 1, 1, 1, 1, 1, 1, 1, 1);
        x.seam(99);
        dueMost(x, LINEN, 0, 0, 1, 2, 3, 4, 5, 6, 7);
        x.measure(0, 1);
        x.measure(1, 1);
        dueMost(x, LINEN, 8, 0, 1, 2, 3, 4, 5, 6, 7);
        says("Terms", "nothing is sold, if there is no PLACE in it");
        dueMost(withBolts(SILK, 1), SILK, 0, 0);
        dueMost(withBolts(SILK, 179, 360), SILK, 360, 0, 1);
    }

    private static void mostLike() {
        says("Terms", "groups by which most inches are sold together, be they few");
        dueMost(withBolts(SILK, 100, 100, 340), SILK, 540, 0, 0, 0);
        dueMost(withBolts(SILK, 170, 190, 360), SILK, 720, 0, 0, 1);
        says("Terms", "of like ones the most groups");
        dueMost(withBolts(SILK, 180, 180), SILK, 360, 0, 1);
        dueMost(withBolts(SILK, 5, 180, 5), SILK, 180, 0, 1, 2);
        dueMost(withBolts(SILK, 100, 180, 80), SILK, 360, 0, 1, 0);
        dueMost(withBolts(SILK, 60, 60, 60, 180), SILK, 360, 0, 0, 0, 1);
        says("Terms", "then the first as a row");
        dueMost(withBolts(SILK, 100, 100, 100), SILK, 180, 0, 0, 1);
        dueMost(withBolts(SILK, 100, 100, 100, 100), SILK, 360, 0, 0, 1, 1);
        dueMost(withBolts(SILK, 10, 170, 170), SILK, 180, 0, 0, 1);
        dueMost(withBolts(SILK, 170, 10, 5, 10), SILK, 180, 0, 0, 1, 2);
        dueMost(withBolts(SILK, 5, 170, 10, 10), SILK, 180, 0, 1, 1, 2);
        dueMost(withBolts(SILK, 5, 5, 90, 100, 90), SILK, 180, 0, 1, 2, 2, 3);
        says("Terms", "groups being numbered as they come, 0, 1 and so on");
        dueMost(withBolts(SILK, 170, 180, 100, 80, 10), SILK, 540, 0, 1, 2, 2, 0);
        dueMost(withBolts(SILK, 1, 180, 60, 2, 60, 60), SILK, 360, 0, 1, 2, 3, 2, 2);
        says("Terms", "by LAW 1 of any two");
        WholeMarks x = withBolts(SILK, 50, 40, 45);
        x.rule(7, 1);
        dueMost(x, SILK, 90, 0, 0, 1);
    }

    private static void mostLarge() {
        says("Terms", "all together in one group, or each in one of its own: 8 BOLTS");
        dueMost(withBolts(SILK, 23, 22, 23, 22, 23, 22, 23, 22), SILK, 180, 0, 0, 0, 0, 0, 0, 0, 0);
        dueMost(withBolts(SILK, 180, 360, 180, 180, 180, 180, 180, 180), SILK, 1620, 0, 1, 2, 3, 4, 5, 6, 7);
        says("Terms", "all lengths together: a group may be longer than a BOLT can be");
        WholeMarks x = withBolts(SILK, 60000, 59999, 1, 60000);
        x.measure(0, 625);
        x.measure(1, 192);
        dueMost(x, SILK, 120000, 0, 1, 2, 0);
        x = withBolts(SILK, 99999, 99999, 99999, 99999, 99999, 99999, 99999, 99999);
        x.measure(0, 888);
        x.measure(1, 901);
        dueMost(x, SILK, 0, 0, 1, 2, 3, 4, 5, 6, 7);
        x.measure(1, 900);
        dueMost(x, SILK, 799200, 0, 0, 1, 1, 2, 2, 3, 3);
    }

    private static void mostChangesNothing() {
        says("Promise 14", "nothing is joined or sold by it");
        WholeMarks x = withBolts(LINEN, 91, 91);
        dueMost(x, LINEN, 180, 0, 0);
        due("told(0, 1)", x.told(0, 1), 91);
        due("told(1, 1)", x.told(1, 1), 91);
        due("count(2)", x.count(2), 0);
        says("Promise 14", "MOST of now: behind each change");
        x.seam(3);
        dueMost(x, LINEN, 0, 0, 1);
        x.bolt(LINEN, 180);
        dueMost(x, LINEN, 180, 0, 1, 2);
        x.measure(0, 30);
        dueMost(x, LINEN, 360, 0, 1, 2);
        x.cut(2, 180);
        dueMost(x, LINEN, 180, 0, 1);
        x.image();
        x.join(0, 1);
        dueMost(x, LINEN, 150, 0);
        x.restore();
        dueMost(x, LINEN, 180, 0, 1);
        read(x, "36,30,45;012t");
        dueMost(x, LINEN, 180, 0, 1);
        x.rule(7, 0);
        dueMost(x, LINEN, 0, 0, 1);
    }

    // ---- buyer, home, price

    private static void buyer() {
        says("Promise 15", "a BUYER: the number; BUYERS 0 .. 5, as they come");
        WholeMarks x = new WholeMarks();
        for (int b = 0; b < 6; b++) {
            due("buyer(" + (b + 1) + ")", x.buyer(b + 1), b);
            due("count(3)", x.count(3), b + 1);
        }
        says("Promise 15", "FULL: 6; and nobody comes");
        for (int b = 0; b < 3; b++) {
            due("buyer(7)", x.buyer(7), -3);
        }
        due("count(3)", x.count(3), 6);
        due("count(4)", x.count(4), 21);
        says("Promise 15", "BAD is ahead of FULL");
        due("buyer(0)", x.buyer(0), -1);
        due("buyer(10000)", x.buyer(10000), -1);
        says("Promise 15", "they WANT 1 .. 9999: just inside");
        x = withBuyers(1, 2, 9998, 9999);
        due("count(3)", x.count(3), 4);
        due("count(4)", x.count(4), 20000);
        says("Promise 15", "they WANT 1 .. 9999: just outside is BAD, and nobody comes");
        for (int wants : new int[] {0, 10000, -1, 10001, MIN, MAX}) {
            x = new WholeMarks();
            due("buyer(" + wants + ")", x.buyer(wants), -1);
            due("count(3)", x.count(3), 0);
            due("buyer(5)", x.buyer(5), 0);
        }
    }

    private static void home() {
        says("Promise 16", "how many: none, one, six");
        due("home() of none", new WholeMarks().home(), 0);
        due("home() of one", withBuyers(5).home(), 1);
        due("home() of six", withBuyers(1, 2, 3, 4, 5, 6).home(), 6);
        says("Promise 16", "all BUYERS go");
        WholeMarks x = withBuyers(1, 2, 3, 4, 5, 6);
        x.home();
        due("count(3)", x.count(3), 0);
        due("count(4)", x.count(4), 0);
        due("price(1)", x.price(1), -1);
        due("parties(6, -1)", x.parties(6, -1), -4);
        due("home()", x.home(), 0);
        says("Promise 16", "behind it BUYERS come anew, from 0 on, six of them");
        for (int b = 0; b < 6; b++) {
            due("buyer(9)", x.buyer(9), b);
        }
        due("buyer(9)", x.buyer(9), -3);
        due("count(4)", x.count(4), 54);
        says("Promise 16", "BUYERS alone go");
        x = withBolts(LINEN, 200);
        x.buyer(5);
        x.seam(7);
        x.cut(0, 180);
        x.home();
        due("count(1)", x.count(1), 20);
        due("count(2)", x.count(2), 180);
        due("seam(2)", x.seam(2), 7);
    }

    private static void priceRefused() {
        says("Promise 17", "BAD: also the empty one");
        due("price(0)", withBuyers(1, 2).price(0), -1);
        due("price(0) of nobody", new WholeMarks().price(0), -1);
        says("Promise 17", "BAD: of a BUYER there is not");
        for (int buyers = 0; buyers <= 6; buyers++) {
            WholeMarks x = new WholeMarks();
            for (int b = 0; b < buyers; b++) {
                x.buyer(1);
            }
            due("price of the last of " + buyers, x.price((1 << buyers) - 1), buyers == 0 ? -1 : 180);
            due("price of one more than " + buyers, x.price(1 << buyers), -1);
            due("price of all and one more than " + buyers, x.price((2 << buyers) - 1), -1);
        }
        WholeMarks x = withBuyers(1, 1, 1, 1, 1, 1);
        for (int set : new int[] {64, 65, 127, -1, -64, MIN, MIN + 1, MAX}) {
            due("price(" + set + ")", x.price(set), -1);
        }
    }

    private static void priceWhere() {
        says("Terms", "the least PLACE that is no less than what all WANT: just below it, at it, just above");
        int[] wants = {1, 179, 180, 181, 360, 361};
        int[] due = {180, 180, 180, 360, 360, 540};
        for (int i = 0; i < wants.length; i++) {
            due("price(1) of " + wants[i], withBuyers(wants[i]).price(1), due[i]);
        }
        says("Terms", "what all WANT together; Sets are bits");
        WholeMarks x = withBuyers(180, 1, 359, 9999, 1, 1);
        due("price(1)", x.price(1), 180);
        due("price(2)", x.price(2), 180);
        due("price(3)", x.price(3), 360);
        due("price(4)", x.price(4), 360);
        due("price(5)", x.price(5), 540);
        due("price(6)", x.price(6), 360);
        due("price(7)", x.price(7), 540);
        due("price(8)", x.price(8), 10080);
        due("price(32)", x.price(32), 180);
        due("price(63)", x.price(63), 10620);
        due("price(63) of the most", withBuyers(9999, 9999, 9999, 9999, 9999, 9999).price(63), 60120);
        says("Terms", "a PLACE by LAW 1 is one of any two");
        x = withBuyers(5, 1, 1, 2, 1);
        x.measure(0, 2);
        x.measure(1, 3);
        x.measure(2, 5);
        x.rule(7, 1);
        due("price(1) of 5", x.price(1), 6);
        due("price(3) of 6", x.price(3), 6);
        due("price(7) of 7", x.price(7), 10);
        due("price(15) of 9", x.price(15), 10);
        due("price(31) of 10", x.price(31), 10);
        says("Promise 17", "a PRICE far off");
        x = withBuyers(1, 9999);
        read(x, "999,998,997;012");
        due("price(1)", x.price(1), 994010994L);
        due("price(3)", x.price(3), 994010994L);
    }

    // ---- parties

    private static void partiesRefused() {
        WholeMarks x = withBuyers(180, 180, 180, 180, 180, 180);
        says("Promise 18", "k at most (1 .. 6): just outside is BAD");
        for (int k : new int[] {0, 7, -1, 8, MIN, MAX}) {
            due("parties(" + k + ", -1)", x.parties(k, -1), -1);
            due("parties(" + k + ", 0)", x.parties(k, 0), -1);
        }
        says("Promise 18", "k at most (1 .. 6): just inside");
        due("parties(1, -1)", x.parties(1, -1), 1080);
        due("parties(6, -1)", x.parties(6, -1), 1080);
        says("Promise 18", "PRICES together (-1), the i-th BUYER (0 .. 5): just outside is BAD");
        for (int i : new int[] {-2, 6, -3, 7, MIN, MAX}) {
            due("parties(1, " + i + ")", x.parties(1, i), -1);
        }
        says("Promise 18", "PRICES together (-1), the i-th BUYER (0 .. 5): just inside");
        due("parties(6, 0)", x.parties(6, 0), 0);
        due("parties(6, 5)", x.parties(6, 5), 5);
        says("Promise 18", "BAD is ahead of NONE");
        due("parties(0, 0) of nobody", new WholeMarks().parties(0, 0), -1);
        due("parties(7, -1) of nobody", new WholeMarks().parties(7, -1), -1);
        due("parties(1, 6) of nobody", new WholeMarks().parties(1, 6), -1);
        due("parties(1, -2) of nobody", new WholeMarks().parties(1, -2), -1);
        due("parties(7, 1) of one", withBuyers(5).parties(7, 1), -1);
        says("Promise 18", "NONE: there is no BUYER");
        dueParties(new WholeMarks(), 1, -4);
        dueParties(new WholeMarks(), 6, -4);
        says("Promise 18", "NONE: no i-th: just behind the last");
        for (int buyers = 1; buyers <= 5; buyers++) {
            x = new WholeMarks();
            for (int b = 0; b < buyers; b++) {
                x.buyer(180);
            }
            due("parties(6, " + (buyers - 1) + ") of " + buyers, x.parties(6, buyers - 1), buyers - 1);
            due("parties(6, " + buyers + ") of " + buyers, x.parties(6, buyers), -4);
        }
    }

    private static void partiesOfSome() {
        says("Terms", "PARTIES of k at most: 1, some, all, more than there are");
        dueParties(withBuyers(30, 30, 30, 30, 30, 30), 1, 1080, 0, 1, 2, 3, 4, 5);
        dueParties(withBuyers(30, 30, 30, 30, 30, 30), 2, 540, 0, 0, 1, 1, 2, 2);
        dueParties(withBuyers(30, 30, 30, 30, 30, 30), 3, 360, 0, 0, 0, 1, 1, 1);
        dueParties(withBuyers(30, 30, 30, 30, 30, 30), 4, 360, 0, 0, 0, 0, 1, 1);
        dueParties(withBuyers(30, 30, 30, 30, 30, 30), 5, 360, 0, 0, 0, 0, 0, 1);
        dueParties(withBuyers(30, 30, 30, 30, 30, 30), 6, 180, 0, 0, 0, 0, 0, 0);
        dueParties(withBuyers(30, 30), 6, 180, 0, 0);
        dueParties(withBuyers(9999), 1, 10080, 0);
        dueParties(withBuyers(9999), 6, 10080, 0);
        says("Terms", "all BUYERS in such by which PRICES together are least: at a PLACE, and just above");
        dueParties(withBuyers(90, 90), 2, 180, 0, 0);
        dueParties(withBuyers(90, 91), 2, 360, 0, 1);
        dueParties(withBuyers(60, 60, 60), 3, 180, 0, 0, 0);
        dueParties(withBuyers(60, 60, 61), 3, 360, 0, 0, 1);
        says("Promise 18", "PRICES together, more than an int");
        WholeMarks x = withBuyers(1, 1, 1, 1, 1, 1);
        read(x, "999,998,997;012");
        dueParties(x, 1, 5964065964L, 0, 1, 2, 3, 4, 5);
        dueParties(x, 2, 2982032982L, 0, 0, 1, 1, 2, 2);
    }

    private static void partiesLike() {
        says("Terms", "of like ones the most PARTIES");
        dueParties(withBuyers(180, 180), 2, 360, 0, 1);
        dueParties(withBuyers(100, 100), 2, 360, 0, 1);
        dueParties(withBuyers(180, 90, 90), 3, 360, 0, 1, 1);
        dueParties(withBuyers(100, 100, 80), 3, 360, 0, 1, 0);
        says("Terms", "then the first row");
        dueParties(withBuyers(60, 60, 60), 2, 360, 0, 0, 1);
        dueParties(withBuyers(100, 80, 80), 6, 360, 0, 0, 1);
        dueParties(withBuyers(170, 100, 80, 80), 6, 540, 0, 1, 1, 2);
        says("Terms", "PARTIES being numbered as they come (likewise)");
        dueParties(withBuyers(170, 180, 100, 80, 10), 6, 540, 0, 1, 2, 2, 0);
        says("Promise 18", "PARTIES of now: behind each change");
        WholeMarks x = withBuyers(90, 90);
        dueParties(x, 2, 180, 0, 0);
        x.buyer(180);
        dueParties(x, 2, 360, 0, 0, 1);
        x.measure(1, 40);
        dueParties(x, 2, 720, 0, 0, 1);
        x.rule(5, 0);
        dueParties(x, 2, 360, 0, 0, 1);
        x.home();
        x.buyer(181);
        dueParties(x, 2, 360, 0);
        x.buyer(1);
        dueParties(x, 2, 360, 0, 0);
        says("Promise 18", "MOST and PARTIES asked by turns");
        x = withBuyers(60, 60, 60);
        x.bolt(SILK, 100);
        x.bolt(SILK, 180);
        x.bolt(SILK, 80);
        for (int times = 0; times < 3; times++) {
            dueMost(x, SILK, 360, 0, 1, 0);
            dueParties(x, 2, 360, 0, 0, 1);
            dueParties(x, 3, 180, 0, 0, 0);
        }
    }
}
