/** For each promise: ordinary inputs, the edges that the document names, and wrong inputs; worked out by hand. */
public final class PromiseTest extends Sentences {
    public static void main(String[] args) {
        towns();
        bolts();
        tape();
        groups();
        measures();
        coins();
        images();
        sheets();
        tellAndExit();
    }

    private static void towns() {
        says("Promise 1", "A new object");
        newObject();
        says("Promise 2", "measure");
        measure();
        says("Promise 3", "rule");
        rule();
        says("Promise 4", "seam");
        seam();
        says("Promise 5", "place");
        place();
        says("Promise 6", "places");
        places();
    }

    private static void bolts() {
        says("Promise 7", "bolt");
        bolt();
        says("Promise 8", "told");
        told();
        says("Promise 9", "cut");
        cut();
        says("Promise 10", "join");
        join();
    }

    private static void tape() {
        says("Promise 11", "type");
        type();
        says("Promise 12", "towns");
        readTowns();
        faults();
        says("Promise 13", "count");
        count();
    }

    private static void groups() {
        says("Promise 14", "most");
        most();
        mostAfresh();
        says("Promise 15", "buyer");
        buyer();
        says("Promise 16", "home");
        home();
        says("Promise 17", "price");
        price();
        says("Promise 18", "parties");
        parties();
    }

    private static void measures() {
        says("Promise 19", "third");
        third();
        says("Promise 20", "worn");
        worn();
    }

    private static void coins() {
        says("Promise 21", "rate");
        rate();
        says("Promise 22", "rings");
        rings();
        says("Promise 23", "turn");
        turn();
    }

    private static void images() {
        says("Promise 24", "image");
        image();
        says("Promise 25", "restore");
        restore();
    }

    private static void sheets() {
        says("Promise 26", "leaves");
        leaves();
        says("Promise 27", "fit");
        fit();
        says("Promise 28", "film");
        film();
        says("Promise 29", "sheet");
        sheet();
        says("Promise 30", "drop");
        drop();
        says("Promise 31", "item");
        item();
        says("Promise 32", "copy");
        copy();
    }

    // ---- 1 towns, bolts

    private static void newObject() {
        WholeMarks x = new WholeMarks();
        for (int what = 0; what <= 5; what++) {
            due("count(" + what + ")", x.count(what), 0);
        }
        due("told(0, 1)", x.told(0, 1), -1);
        due("price(1)", x.price(1), -1);
        due("home()", x.home(), 0);
        due("restore()", x.restore(), -4);
        due("towns() of the empty tape", x.towns(), -20);
        due("measure(0, 36)", x.measure(0, 36), 36);
        due("measure(1, 30)", x.measure(1, 30), 30);
        due("measure(2, 45)", x.measure(2, 45), 45);
        due("rule(3, 0)", x.rule(3, 0), 30);
        due("seam(2)", x.seam(2), 2);
        for (int s = 0; s < 4; s++) {
            due("drop(" + s + ")", x.drop(s), -11);
        }
        for (int pair = 0; pair < 16; pair++) {
            if (pair / 4 != pair % 4) {
                due("rate of " + pair, x.rate(pair / 4, pair % 4, 1, 1), 101);
            }
        }
        x.bolt(0, 9);
        x.buyer(9);
        due("another object has no bolt", new WholeMarks().count(0), 0);
        due("another object has no buyer", new WholeMarks().count(3), 0);
    }

    private static void measure() {
        WholeMarks x = new WholeMarks();
        due("measure(0, 1)", x.measure(0, 1), 36);
        due("measure(0, 999)", x.measure(0, 999), 1);
        due("measure(1, 7)", x.measure(1, 7), 30);
        due("measure(2, 8)", x.measure(2, 8), 45);
        due("measure(0, 0)", x.measure(0, 0), -1);
        due("measure(0, 1000)", x.measure(0, 1000), -1);
        due("measure(0, MIN)", x.measure(0, MIN), -1);
        due("measure(-1, 5)", x.measure(-1, 5), -1);
        due("measure(3, 5)", x.measure(3, 5), -1);
        due("measure(MAX, 5)", x.measure(MAX, 5), -1);
        due("measure(0, 5) after what was refused", x.measure(0, 5), 999);
        due("measure(1, 5)", x.measure(1, 5), 7);
        due("measure(2, 5)", x.measure(2, 5), 8);
        due("place(1)", x.place(1), 5);
    }

    private static void rule() {
        WholeMarks x = new WholeMarks();
        due("rule(5, 1)", x.rule(5, 1), 30);
        due("rule(6, 0)", x.rule(6, 0), 51);
        due("rule(7, 1)", x.rule(7, 1), 60);
        due("rule(3, 0)", x.rule(3, 0), 71);
        for (int set : new int[] {MIN, -1, 0, 1, 2, 4, 8, 9, 11, 15, MAX}) {
            due("rule(" + set + ", 1)", x.rule(set, 1), -1);
        }
        due("rule(7, -1)", x.rule(7, -1), -1);
        due("rule(7, 2)", x.rule(7, 2), -1);
        due("rule(3, 0) after what was refused", x.rule(3, 0), 30);
    }

    private static void seam() {
        WholeMarks x = new WholeMarks();
        due("seam(0)", x.seam(0), 2);
        due("seam(99)", x.seam(99), 0);
        due("seam(100)", x.seam(100), -1);
        due("seam(-1)", x.seam(-1), -1);
        due("seam(MIN)", x.seam(MIN), -1);
        due("seam(5)", x.seam(5), 99);
    }

    private static void place() {
        WholeMarks x = withMeasures(7, 5, 3, 7, 1);
        int[] ofTwo = {15, 21, 30, 35, 42, 45, 60, 63, 70, 75, 84, 90, 105, 120, 126};
        for (int i = 1; i <= ofTwo.length; i++) {
            due("place(" + i + ") of two of 7, 5, 3", x.place(i), ofTwo[i - 1]);
        }
        // 13 places to each 105, and 999999 is 13 times 76923
        due("place(999999)", x.place(999999), 76923L * 105);
        due("place(999998)", x.place(999998), 76922L * 105 + 90);
        x.rule(7, 0);
        due("place(2) of all", x.place(2), 210);
        x.rule(5, 1);
        due("place(3) of 7 and 3", x.place(3), 63);
        x.rule(6, 0);
        due("place(1) of 5 and 3", x.place(1), 15);
        due("place(0)", x.place(0), -1);
        due("place(-1)", x.place(-1), -1);
        due("place(MIN)", x.place(MIN), -1);
        due("place(1000000)", x.place(1000000), -1);
        due("place(999999) far off", withMeasures(999, 998, 997, 7, 0).place(999999), 999999L * 994010994L);
        due("place(999999) of two, far off", withMeasures(999, 999, 999, 7, 1).place(999999), 999999L * 999);
        due("place(3) where one measure is whole in another", withMeasures(12, 6, 4, 7, 1).place(3), 36);
        due("place(1) of unlike ones", withMeasures(12, 9, 4, 7, 1).place(1), 12);
    }

    private static void places() {
        WholeMarks x = withMeasures(7, 5, 3, 7, 1);
        due("places(0)", x.places(0), 0);
        due("places(14)", x.places(14), 0);
        due("places(15)", x.places(15), 1);
        due("places(44)", x.places(44), 5);
        due("places(105)", x.places(105), 13);
        due("places(106)", x.places(106), 13);
        due("places(10^15)", x.places(1000000000000000L), 1000000000000000L / 105 * 13 + 6);
        due("places(10^15 + 1)", x.places(1000000000000001L), -1);
        due("places(-1)", x.places(-1), -1);
        due("places(MIN)", x.places(Long.MIN_VALUE), -1);
        due("places(MAX)", x.places(Long.MAX_VALUE), -1);
        x.rule(7, 0);
        due("places(10^15) of all", x.places(1000000000000000L), 1000000000000000L / 105);
        due("places(10^15) of every inch", withMeasures(1, 1, 1, 7, 1).places(1000000000000000L), 1000000000000000L);
    }

    private static void bolt() {
        WholeMarks x = new WholeMarks();
        due("bolt(4, 1)", x.bolt(4, 1), -1);
        due("bolt(-1, 1)", x.bolt(-1, 1), -1);
        due("bolt(0, 0)", x.bolt(0, 0), -1);
        due("bolt(0, -5)", x.bolt(0, -5), -1);
        due("bolt(0, 100000)", x.bolt(0, 100000), -1);
        due("bolt(0, 1)", x.bolt(0, 1), 0);
        due("bolt(3, 99999)", x.bolt(3, 99999), 1);
        for (int b = 2; b < 8; b++) {
            due("bolt(1, 5)", x.bolt(1, 5), b);
        }
        due("bolt(0, 1) of nine", x.bolt(0, 1), -3);
        due("bolt(4, 1) of nine", x.bolt(4, 1), -1);
        due("bolt(0, 0) of nine", x.bolt(0, 0), -1);
        due("count(1)", x.count(1), 100030);
    }

    private static void told() {
        WholeMarks x = new WholeMarks();
        x.bolt(3, 359);
        x.bolt(2, 179);
        due("told(0, 0)", x.told(0, 0), 3);
        due("told(0, 1)", x.told(0, 1), 359);
        due("told(0, 2)", x.told(0, 2), 180);
        due("told(1, 0)", x.told(1, 0), 2);
        due("told(1, 2)", x.told(1, 2), 0);
        x.rule(7, 1);
        due("told(0, 2) of two", x.told(0, 2), 270);
        due("told(1, 2) of two", x.told(1, 2), 90);
        due("told(2, 0)", x.told(2, 0), -1);
        due("told(-1, 0)", x.told(-1, 0), -1);
        due("told(8, 0)", x.told(8, 0), -1);
        due("told(0, 3)", x.told(0, 3), -1);
        due("told(0, -1)", x.told(0, -1), -1);
    }

    private static void cut() {
        int[] left = {20, 19, 20, 19};
        for (int cloth = 0; cloth < 4; cloth++) {
            WholeMarks x = withBolts(cloth, 200, 180, 181);
            due("cut(0, 180) of cloth " + cloth, x.cut(0, 180), left[cloth]);
            due("told(0, 1)", x.told(0, 1), left[cloth]);
            due("cut(1, 180) of cloth " + cloth, x.cut(1, 180), 0);
            due("cut(2, 180) of cloth " + cloth, x.cut(2, 180), left[cloth] - 19);
            due("count(2)", x.count(2), 540);
        }
        WholeMarks x = withBolts(1, 541);
        due("cut(0, 0)", x.cut(0, 0), -2);
        due("cut(0, -180)", x.cut(0, -180), -2);
        due("cut(0, MIN)", x.cut(0, MIN), -2);
        due("cut(0, MAX)", x.cut(0, MAX), -2);
        due("cut(0, 181)", x.cut(0, 181), -2);
        due("cut(0, 720)", x.cut(0, 720), -2);
        due("cut(1, 180)", x.cut(1, 180), -1);
        due("cut(-1, 180)", x.cut(-1, 180), -1);
        due("cut(1, 181)", x.cut(1, 181), -1);
        due("told(0, 1) after what was refused", x.told(0, 1), 541);
        due("count(2) after what was refused", x.count(2), 0);
        due("cut(0, 360): no mere least place", x.cut(0, 360), 180);
        due("cut(0, 180): places anew", x.cut(0, 180), 0);
        due("cut(0, 180) of nothing", x.cut(0, 180), -2);
        x = withBolts(0, 400);
        x.rule(7, 1);
        due("cut(0, 90) of two", x.cut(0, 90), 310);
        x = withBolts(1, 3, 2);
        x.measure(0, 1);
        x.measure(1, 1);
        due("cut(0, 1) where every inch is a place", x.cut(0, 1), 1);
        due("cut(0, 1) to the end", x.cut(0, 1), 0);
        due("cut(1, 1): nothing is left of one inch", x.cut(1, 1), 0);
    }

    private static void join() {
        int[] joined = {298, 298, 300, 300};
        for (int cloth = 0; cloth < 4; cloth++) {
            WholeMarks x = withBolts(cloth, 100, 200);
            due("join(1, 0) of cloth " + cloth, x.join(1, 0), joined[cloth]);
            due("told(1, 1)", x.told(1, 1), joined[cloth]);
            due("told(0, 1)", x.told(0, 1), 0);
            due("count(0)", x.count(0), 2);
        }
        WholeMarks x = withBolts(0, 40, 59, 50, 50);
        x.bolt(1, 7);
        x.bolt(3, 7);
        x.seam(99);
        due("join(0, 1): 0 at least", x.join(0, 1), 0);
        due("join(2, 3)", x.join(2, 3), 1);
        due("join(2, 0): one is 0", x.join(2, 0), -2);
        due("join(0, 2): one is 0", x.join(0, 2), -2);
        due("join(4, 5): wool and felt", x.join(4, 5), -2);
        due("join(2, 4): linen and wool", x.join(2, 4), -2);
        due("join(4, 4)", x.join(4, 4), -1);
        due("join(4, 6)", x.join(4, 6), -1);
        due("join(-1, 4)", x.join(-1, 4), -1);
        due("join(9, 9)", x.join(9, 9), -1);
        due("told(4, 1) after what was refused", x.told(4, 1), 7);
        x = withBolts(0, 99999, 3, 2, 4);
        due("join(0, 1) above 99999", x.join(0, 1), -3);
        due("told(0, 1) after what was refused", x.told(0, 1), 99999);
        due("told(1, 1) after what was refused", x.told(1, 1), 3);
        due("join(2, 0): as long as can be", x.join(2, 0), 99999);
        x.bolt(1, 99999);
        due("join(2, 4): NOT is ahead of FULL", x.join(2, 4), -2);
        due("join of one inch each", withBolts(2, 1, 1).join(0, 1), 2);
    }

    private static void type() {
        WholeMarks x = new WholeMarks();
        due("type(n = 0)", x.type(65, 0), -1);
        due("type(n = 9)", x.type(65, 9), -1);
        due("type(n = MIN)", x.type(65, MIN), -1);
        due("type(31)", x.type(31, 1), -1);
        due("type(127)", x.type(127, 1), -1);
        due("type(0x2041, 3): a byte 0", x.type(0x2041, 3), -1);
        due("type(0xFF)", x.type(0xFF, 1), -1);
        due("type(a bad byte ahead)", x.type(0x1F41, 2), -1);
        due("type(the lowest alone)", x.type(0x7F1F41L, 1), 1);
        due("type(32 and 126)", x.type(0x207E, 2), 3);
        due("type(eight)", x.type(0x4142434445464748L, 8), 11);
        for (int n = 19; n <= 35; n += 8) {
            due("type(eight)", x.type(0x4142434445464748L, 8), n);
        }
        due("type(above 40)", x.type(0x414243444546L, 6), -3);
        due("type(BAD is ahead of FULL)", x.type(0x41424344451FL, 6), -1);
        due("type(to 40)", x.type(0x4142434445L, 5), 40);
        due("type(41)", x.type(65, 1), -3);
        x.towns();
        due("type behind towns", x.type(65, 1), 1);
        x = new WholeMarks();
        x.type(0x312C322CL, 4);
        x.type(0xFFFFFFFFFFFFFF33L, 1);
        due("towns(): bytes stand in their order", x.towns(), 2);
        due("place(1)", x.place(1), 2);
        due("measure(2, 1)", x.measure(2, 1), 3);
    }

    private static void readTowns() {
        dueTowns("1,2,3", 2, 1, 2, 3, 30);
        dueTowns("999,998,997", 2, 999, 998, 997, 30);
        dueTowns("7,8,9t", 2, 7, 8, 9, 31);
        dueTowns("7,8,9;01", 2, 7, 8, 9, 30);
        dueTowns("7,8,9;10t", 2, 7, 8, 9, 31);
        dueTowns("7,8,9;20", 2, 7, 8, 9, 50);
        dueTowns("7,8,9;12", 2, 7, 8, 9, 60);
        dueTowns("7,8,9;201", 3, 7, 8, 9, 70);
        dueTowns("7,8,9;012t", 3, 7, 8, 9, 71);
        dueTowns("007,0008,00000999", 2, 7, 8, 999, 30);
        dueTowns(" 7 , 8 , 9 ; 2 1 0 t ", 3, 7, 8, 9, 71);
        dueTowns("0000000000000000000000000000000007,08,09", 2, 7, 8, 9, 30);
        WholeMarks x = new WholeMarks();
        due("towns() one after another", read(x, "7,8,9;012t"), 3);
        due("towns() one after another", read(x, "4,5,6"), 2);
        due("place(1)", x.place(1), 20);
        due("rule: what is not told is as the document says", x.rule(3, 0), 30);
        due("towns() one after another", read(x, "4,5,6;2"), -27);
        due("towns() one after another", read(x, "4,5,6;12t"), 2);
        due("rule", x.rule(3, 0), 61);
        x.bolt(1, 400);
        x.seam(7);
        read(x, "5,7,9");
        due("seam stays", x.seam(2), 7);
        due("bolts stay", x.count(1), 400);
        due("places are the new ones", x.told(0, 2), 385);
    }

    private static void faults() {
        dueFault("", 0);
        dueFault("   ", 3);
        dueFault("0,2,3", 0);
        dueFault("  000,2,3", 2);
        dueFault("1000,2,3", 0);
        dueFault("1, 1000,3", 3);
        dueFault("1,2,3000", 4);
        dueFault("1,2,4294967297", 4);
        dueFault("1,2,18446744073709551617", 4);
        dueFault("-1,2,3", 0);
        dueFault("1,2", 3);
        dueFault("1,2  ", 5);
        dueFault("1,2,", 4);
        dueFault("1,,3", 2);
        dueFault("1 2,3,4", 2);
        dueFault("1,2,3 4", 6);
        dueFault("1,2,3,4", 5);
        dueFault("1,2,3x", 5);
        dueFault("1;2,3", 1);
        dueFault("1,2,3;", 6);
        dueFault("1,2,3; ", 7);
        dueFault("1,2,3;t", 6);
        dueFault("1,2,3;0", 7);
        dueFault("1,2,3;0t", 7);
        dueFault("1,2,3;3", 6);
        dueFault("1,2,3;00", 7);
        dueFault("1,2,3;0 0", 8);
        dueFault("1,2,3;013", 8);
        dueFault("1,2,3;011", 8);
        dueFault("1,2,3;0120", 9);
        dueFault("1,2,3;01 , ", 9);
        dueFault("1,2,3tt", 6);
        dueFault("1,2,3t;01", 6);
        dueFault("1,2,3T", 5);
        dueFault("1,2,3;01t2", 9);
        dueFault("1,2,3                                 ;0", 40);
    }

    private static void count() {
        WholeMarks x = new WholeMarks();
        x.bolt(1, 400);
        x.bolt(0, 100);
        x.bolt(2, 180);
        x.buyer(30);
        x.buyer(9999);
        x.cut(0, 180);
        x.cut(2, 180);
        due("count(0)", x.count(0), 3);
        due("count(1)", x.count(1), 319);
        due("count(2)", x.count(2), 360);
        due("count(3)", x.count(3), 2);
        due("count(4)", x.count(4), 10029);
        due("count(5)", x.count(5), 139);
        x.rule(7, 1);
        due("count(5) of two", x.count(5), 49);
        due("count(6)", x.count(6), -1);
        due("count(-1)", x.count(-1), -1);
        due("count(MIN)", x.count(MIN), -1);
    }

    // ---- 2 most, parties

    private static void most() {
        dueMost(new WholeMarks(), 0, 0);
        dueMost(withBolts(0, 100, 100), 0, 180, 0, 0);
        dueMost(withBolts(0, 91, 91), 0, 180, 0, 0);
        dueMost(withBolts(0, 91, 90), 0, 0, 0, 1);
        dueMost(withBolts(1, 91, 91), 1, 180, 0, 0);
        dueMost(withBolts(2, 90, 90), 2, 180, 0, 0);
        dueMost(withBolts(3, 90, 90), 3, 180, 0, 0);
        dueMost(withBolts(2, 180, 180), 2, 360, 0, 1);
        dueMost(withBolts(2, 100, 100, 100), 2, 180, 0, 0, 1);
        dueMost(withBolts(2, 100, 270, 100, 90), 2, 540, 0, 0, 1, 1);
        dueMost(withBolts(2, 100, 170, 80, 190), 2, 540, 0, 1, 0, 1);
        dueMost(withBolts(0, 360, 180), 0, 540, 0, 1);
        dueMost(withBolts(0, 60, 60, 60), 0, 0, 0, 1, 2);
        dueMost(withBolts(2, 60, 60, 60), 2, 180, 0, 0, 0);
        dueMost(withBolts(2, 1, 1, 1, 1, 1, 1, 1, 1), 2, 0, 0, 1, 2, 3, 4, 5, 6, 7);
        dueMost(withBolts(2, 23, 23, 23, 23, 23, 23, 23, 23), 2, 180, 0, 0, 0, 0, 0, 0, 0, 0);
        WholeMarks x = withBolts(0, 1, 1, 1);
        x.measure(0, 1);
        x.measure(1, 1);
        x.seam(99);
        dueMost(x, 0, 3, 0, 1, 2);
        x = new WholeMarks();
        x.bolt(0, 180);
        x.bolt(1, 100);
        x.bolt(0, 100);
        x.bolt(1, 100);
        x.bolt(0, 100);
        x.cut(0, 180);
        dueMost(x, 0, 180, 0, 0);
        dueMost(x, 1, 180, 0, 0);
        dueMost(x, 2, 0);
        due("most(4, 0)", x.most(4, 0), -1);
        due("most(-1, 0)", x.most(-1, 0), -1);
        due("most(0, -2)", x.most(0, -2), -1);
        due("most(0, 8)", x.most(0, 8), -1);
        due("most(0, MIN)", x.most(0, MIN), -1);
    }

    /** The same question after something else has changed. */
    private static void mostAfresh() {
        WholeMarks x = withBolts(0, 91, 91);
        dueMost(x, 0, 180, 0, 0);
        x.seam(3);
        dueMost(x, 0, 0, 0, 1);
        x.measure(0, 30);
        dueMost(x, 0, 180, 0, 1);
        x.bolt(0, 29);
        dueMost(x, 0, 180, 0, 1, 2);
        x.buyer(3);
        due("parties(1, -1)", x.parties(1, -1), 30);
        dueMost(x, 0, 180, 0, 1, 2);
        x.cut(0, 90);
        dueMost(x, 0, 90, 0, 1, 2);
        x.seam(0);
        dueMost(x, 0, 120, 0, 1, 0);
        due("count(1): nothing is joined by it", x.count(1), 121);
    }

    private static void buyer() {
        WholeMarks x = new WholeMarks();
        due("buyer(0)", x.buyer(0), -1);
        due("buyer(10000)", x.buyer(10000), -1);
        due("buyer(MIN)", x.buyer(MIN), -1);
        due("buyer(1)", x.buyer(1), 0);
        due("buyer(9999)", x.buyer(9999), 1);
        for (int b = 2; b < 6; b++) {
            due("buyer(2)", x.buyer(2), b);
        }
        due("buyer(2) of seven", x.buyer(2), -3);
        due("buyer(0) of seven", x.buyer(0), -1);
        due("count(3)", x.count(3), 6);
        due("count(4)", x.count(4), 10008);
    }

    private static void home() {
        WholeMarks x = withBuyers(1, 2, 3);
        due("home()", x.home(), 3);
        due("home()", x.home(), 0);
        due("count(3)", x.count(3), 0);
        due("count(4)", x.count(4), 0);
        due("price(1)", x.price(1), -1);
        due("buyer(9)", x.buyer(9), 0);
        due("count(4)", x.count(4), 9);
    }

    private static void price() {
        WholeMarks x = withBuyers(180, 1, 9999);
        due("price(1): the place itself", x.price(1), 180);
        due("price(2)", x.price(2), 180);
        due("price(3): an inch more", x.price(3), 360);
        due("price(4)", x.price(4), 10080);
        due("price(7)", x.price(7), 10260);
        due("price(0)", x.price(0), -1);
        due("price(8)", x.price(8), -1);
        due("price(9)", x.price(9), -1);
        due("price(-1)", x.price(-1), -1);
        due("price(MIN)", x.price(MIN), -1);
        due("price(MAX)", x.price(MAX), -1);
        x.rule(7, 1);
        due("price(2) of two", x.price(2), 90);
        due("price(3) of two", x.price(3), 270);
        x.measure(0, 999);
        x.measure(1, 998);
        x.measure(2, 997);
        x.rule(7, 0);
        due("price(1) far off", x.price(1), 994010994L);
    }

    private static void parties() {
        dueParties(withBuyers(60, 60, 60), 1, 540, 0, 1, 2);
        dueParties(withBuyers(60, 60, 60), 2, 360, 0, 0, 1);
        dueParties(withBuyers(60, 60, 60), 3, 180, 0, 0, 0);
        dueParties(withBuyers(60, 60, 60), 6, 180, 0, 0, 0);
        dueParties(withBuyers(180, 180), 2, 360, 0, 1);
        dueParties(withBuyers(100, 150, 80, 30), 2, 360, 0, 1, 0, 1);
        dueParties(withBuyers(1), 1, 180, 0);
        dueParties(withBuyers(30, 30, 30, 30, 30, 30), 5, 360, 0, 0, 0, 0, 0, 1);
        dueParties(withBuyers(30, 30, 30, 30, 30, 30), 6, 180, 0, 0, 0, 0, 0, 0);
        WholeMarks x = withBuyers(1, 1, 1, 1, 1, 1);
        read(x, "999,998,997;012");
        dueParties(x, 1, 6L * 994010994L, 0, 1, 2, 3, 4, 5);
        dueParties(x, 3, 2L * 994010994L, 0, 0, 0, 1, 1, 1);
        due("parties(0, 0)", x.parties(0, 0), -1);
        due("parties(7, 0)", x.parties(7, 0), -1);
        due("parties(1, -2)", x.parties(1, -2), -1);
        due("parties(1, 6)", x.parties(1, 6), -1);
        x = new WholeMarks();
        due("parties(6, -1) of nobody", x.parties(6, -1), -4);
        due("parties(6, 0) of nobody", x.parties(6, 0), -4);
        due("parties(7, 0) of nobody: BAD is ahead", x.parties(7, 0), -1);
    }

    // ---- 3 measures, coins

    private static void third() {
        WholeMarks x = new WholeMarks();
        due("third(0) of no bolts", x.third(0), 1);
        due("third(1) of no bolts", x.third(1), 0);
        due("third(2)", x.third(2), -1);
        due("third(-1)", x.third(-1), -1);
        x.bolt(0, 100);
        x.bolt(1, 72);
        x.bolt(2, 25);
        x.bolt(3, 150);
        // by measure 1 the places are all that 36 or 30 measure: 90, 72, none, 150
        due("third(0)", x.third(0), 1);
        due("third(1)", x.third(1), 35);
        due("the measure stays", x.measure(2, 44), 45);
        due("the rule stays", x.rule(3, 0), 30);
        due("the waste stays", x.count(5), 347);
        x.measure(0, 20);
        due("third(1) by other measures", x.third(1), 100 - 100 + 72 - 60 + 25 - 20);
    }

    private static void worn() {
        WholeMarks x = new WholeMarks();
        int[] first = {5, 5, 4, 3, 3, 3, 1, 1, 1, 1};
        for (int s = 0; s < first.length; s++) {
            due("worn(" + s + ")", x.worn(s), first[s]);
        }
        due("worn(10)", x.worn(10), -1);
        due("worn(-1)", x.worn(-1), -1);
        due("worn(MIN)", x.worn(MIN), -1);
        x.measure(0, 9);
        due("worn(9) of measure 9", x.worn(9), -1);
        due("worn(8) of measure 9", x.worn(8), 3);
        x.measure(0, 500);
        x.measure(1, 5);
        due("worn(5) of measure 5 in the other", x.worn(5), -1);
        due("worn(4)", x.worn(4), 1);
        x.measure(2, 1);
        due("worn(4): the third is not asked", x.worn(4), 1);
        x.measure(0, 999);
        x.measure(1, 998);
        due("worn(0) far off", x.worn(0), 998);
        x.measure(0, 30);
        x.measure(1, 36);
        due("worn(0) the other way", x.worn(0), 6);
    }

    private static void rate() {
        WholeMarks x = new WholeMarks();
        due("rate(0, 1, 99, 1)", x.rate(0, 1, 99, 1), 101);
        due("rate(0, 1, 1, 99)", x.rate(0, 1, 1, 99), 9901);
        due("rate(1, 0, 5, 7)", x.rate(1, 0, 5, 7), 101);
        due("rate(0, 1, 1, 1)", x.rate(0, 1, 1, 1), 199);
        due("rate(2, 2)", x.rate(2, 2, 1, 1), -1);
        due("rate(4, 0)", x.rate(4, 0, 1, 1), -1);
        due("rate(0, 4)", x.rate(0, 4, 1, 1), -1);
        due("rate(-1, 0)", x.rate(-1, 0, 1, 1), -1);
        due("rate(0, -1)", x.rate(0, -1, 1, 1), -1);
        due("rate above 0", x.rate(1, 0, 0, 1), -1);
        due("rate above 100", x.rate(1, 0, 100, 1), -1);
        due("rate below 0", x.rate(1, 0, 1, 0), -1);
        due("rate below 100", x.rate(1, 0, 1, 100), -1);
        due("rate below MIN", x.rate(1, 0, 1, MIN), -1);
        due("rate(1, 0) after what was refused", x.rate(1, 0, 1, 1), 507);
    }

    private static void rings() {
        WholeMarks x = new WholeMarks();
        dueRings(x, 0, -4);
        due("rings(2)", x.rings(2), -1);
        due("rings(-1)", x.rings(-1), -1);
        x.rate(0, 1, 2, 1);
        dueRings(x, 5, 12);
        x.rate(1, 0, 1, 2);
        dueRings(x, 4, 123);
        x = new WholeMarks();
        x.rate(2, 3, 2, 1);
        dueRings(x, 5, 34);
        x.rate(3, 2, 1, 2);
        dueRings(x, 4, 134);
        x = new WholeMarks();
        x.rate(3, 0, 99, 98);
        dueRings(x, 5, 14);
        // only the ring of all four gains: a whole round of 3 by 2, all other ways are dear
        x = new WholeMarks();
        for (int pair = 0; pair < 16; pair++) {
            x.rate(pair / 4, pair % 4, 1, 99);
        }
        x.rate(0, 2, 3, 2);
        x.rate(2, 1, 3, 2);
        x.rate(1, 3, 3, 2);
        x.rate(3, 0, 3, 2);
        dueRings(x, 1, 1324);
        x = new WholeMarks();
        for (int pair = 0; pair < 16; pair++) {
            x.rate(pair / 4, pair % 4, 99, 98);
        }
        dueRings(x, 20, 12);
    }

    private static void turn() {
        WholeMarks x = new WholeMarks();
        dueTurn(x, 0, 7, 7, 1, 0);
        dueTurn(x, 0, 7, 7, 1, 2, 0);
        dueTurn(x, 1, 7, 7, 0, 2, 1);
        dueTurn(x, 3, 0, 0, 0, 1, 0, 1, 3);
        dueTurn(x, 0, 999999, 999999, 1, 0, 1, 0);
        x.rate(0, 1, 1, 2);
        x.rate(1, 0, 2, 1);
        dueTurn(x, 0, 7, 7, 2, 0);
        dueTurn(x, 0, 6, 6, 1, 0);
        // 3 by 2 and back 3 by 2: 7, 10, 15 by the third coin; each change is cut
        x.rate(0, 3, 3, 2);
        x.rate(3, 0, 3, 2);
        dueTurn(x, 0, 7, 15, 3, 0);
        // 7, 10, 15, 22, 33 and 7, 10, 15, 22, 22, 33
        dueTurn(x, 0, 7, 33, 3, 0, 3, 0);
        // 1 3 0: 3, 3, 4; 2 3 0: 7, 7, 10; 3 1 0: 10, 10, 20
        dueTurn(x, 0, 7, 20, 3, 1, 0);
        due("turn in one change", x.turn(0, 7, 1, -1), -4);
        due("turn in one change", x.turn(0, 7, 1, 0), -4);
        due("turn in one change: BAD is ahead", x.turn(0, 7, 1, 1), -1);
        due("turn(k = 0)", x.turn(0, 7, 0, -1), -1);
        due("turn(k = 6)", x.turn(0, 7, 6, -1), -1);
        due("turn(i = k)", x.turn(0, 7, 3, 3), -1);
        due("turn(i = -2)", x.turn(0, 7, 3, -2), -1);
        due("turn(coin 4)", x.turn(4, 7, 3, 0), -1);
        due("turn(coin -1)", x.turn(-1, 7, 3, 0), -1);
        due("turn(n = -1)", x.turn(0, -1, 3, 0), -1);
        due("turn(n = 1000000)", x.turn(0, 1000000, 3, 0), -1);
        x = new WholeMarks();
        for (int pair = 0; pair < 16; pair++) {
            x.rate(pair / 4, pair % 4, 99, 1);
        }
        dueTurn(x, 2, 999999, 999999L * 99 * 99 * 99 * 99 * 99, 0, 1, 0, 1, 2);
    }

    private static void image() {
        WholeMarks x = withAll();
        due("image()", x.image(), 1);
        dueAllOfIt(x);
        x = withAll();
        x.image();
        changeAll(x);
        due("image() takes the place of the first", x.image(), 1);
        x.home();
        x.restore();
        due("count(3)", x.count(3), 1);
        due("count(4)", x.count(4), 60);
        due("seam(1)", x.seam(1), 6);
    }

    private static void restore() {
        WholeMarks x = withAll();
        due("restore() of no image", x.restore(), -4);
        dueAllOfIt(x);
        x = withAll();
        x.image();
        changeAll(x);
        due("restore()", x.restore(), 1);
        dueAllOfIt(x);
        due("restore() again", x.restore(), 1);
        dueAllOfIt(x);
        x = new WholeMarks();
        write(x, "1,2");
        x.sheet(0, INTS, 5);
        x.sheet(1, LONGS, 6);
        x.image();
        write(x, ",3");
        x.drop(0);
        x.sheet(1, SHORTS, 7);
        x.sheet(2, SHORTS, 8);
        x.restore();
        due("the tape stays as it is", x.type(' ', 1), 6);
        due("towns()", x.towns(), 2);
        due("sheet 0 stays", x.drop(0), -11);
        due("sheet 1 stays", x.drop(1), 7);
        due("sheet 2 stays", x.drop(2), 8);
    }

    // ---- 4 sheets

    private static void leaves() {
        WholeMarks x = withBuyers(50, 50);
        fill(x, 0, INTS, 180, 180);
        due("leaves: each no more than the price", x.leaves(0, INTS, 0), 3);
        fill(x, 0, INTS, 90, 90);
        due("leaves: nobody", x.leaves(0, INTS, 0), -4);
        fill(x, 0, INTS, 90, 91);
        due("leaves: both", x.leaves(0, INTS, 0), 3);
        fill(x, 0, INTS, 0, 181);
        due("leaves: the second", x.leaves(0, INTS, 0), 2);
        fill(x, 0, INTS, 181, 181);
        due("leaves: the least set", x.leaves(0, INTS, 0), 1);
        fill(x, 0, INTS, 181, 90, 91, 0);
        due("leaves from item 1 on", x.leaves(0, INTS, 1), 3);
        due("leaves from item 2 on", x.leaves(0, INTS, 2), -4);
        due("leaves from item 3 on", x.leaves(0, INTS, 3), -13);
        due("leaves from item -1 on", x.leaves(0, INTS, -1), -13);
        due("leaves from item MAX on", x.leaves(0, INTS, MAX), -13);
        due("leaves from item MIN on", x.leaves(0, INTS, MIN), -13);
        due("leaves of shorts", x.leaves(0, SHORTS, 0), -12);
        due("leaves: CAST is ahead of INDEX", x.leaves(0, SHORTS, 9), -12);
        due("leaves of no sheet", x.leaves(1, INTS, 0), -11);
        due("leaves: NULL is ahead of INDEX", x.leaves(1, INTS, -1), -11);
        due("leaves of sheet 4", x.leaves(4, INTS, 0), -1);
        due("leaves of sheet -1", x.leaves(-1, INTS, 0), -1);
        due("leaves of lane 3", x.leaves(1, 3, 0), -1);
        due("leaves of lane -1", x.leaves(0, -1, 0), -1);
        fill(x, 0, INTS, 181, -1);
        due("leaves: a share below 0", x.leaves(0, INTS, 0), -2);
        fill(x, 0, INTS, 0, 9999999);
        due("leaves: the greatest share", x.leaves(0, INTS, 0), 2);
        fill(x, 0, INTS, 500, 10000000);
        due("leaves: a share above", x.leaves(0, INTS, 0), -2);
        due("leaves: INDEX is ahead of NOT", x.leaves(0, INTS, 1), -13);
        fill(x, 3, LONGS, 1L << 32, 0);
        due("leaves: a long above", x.leaves(3, LONGS, 0), -2);
        fill(x, 2, SHORTS, 90, 91);
        due("leaves of shorts", x.leaves(2, SHORTS, 0), 3);
        x.home();
        due("leaves: there is no buyer", x.leaves(2, SHORTS, 2), -2);
        due("leaves: INDEX also where no item is taken", x.leaves(2, SHORTS, 3), -13);
        due("leaves: INDEX also where no item is taken", x.leaves(2, SHORTS, -1), -13);
        x = withBuyers(180, 180, 100, 80);
        fill(x, 0, INTS, 180, 180, 100, 81);
        due("leaves: set 12 only", x.leaves(0, INTS, 0), 12);
    }

    private static void fit() {
        WholeMarks x = new WholeMarks();
        fill(x, 0, INTS, 360, 720, 180, 900, 180, 180, 360, 540, 13, 1000000, 0, 1, 999999);
        due("fit(0)", x.fit(0, INTS, 0, 3, 0), 105);
        due("fit(1)", x.fit(0, INTS, 0, 3, 1), 445);
        due("fit(0) of eight", x.fit(0, INTS, 0, 8, 0), 105);
        due("fit(0) of one more", x.fit(0, INTS, 7, 2, 0), 0);
        due("fit(1) of one more", x.fit(0, INTS, 7, 2, 1), -4);
        due("fit(0) of a length 1", x.fit(0, INTS, 11, 1, 0), 0);
        // 999999 is 27 by 7 by 11 by 13 by 37: 3, 7, 9, 11, 13, 21, 27, 33, 37, 39
        due("fit(0) of 999999", x.fit(0, INTS, 12, 1, 0), 45);
        due("fit(1) of 999999", x.fit(0, INTS, 12, 1, 1), 3739);
        due("fit of 1000000", x.fit(0, INTS, 9, 1, 0), -2);
        due("fit of 0", x.fit(0, INTS, 10, 1, 0), -2);
        due("fit(n = 0)", x.fit(0, INTS, 0, 0, 0), -1);
        due("fit(n = 9)", x.fit(0, INTS, 0, 9, 0), -1);
        due("fit(n = -1)", x.fit(0, INTS, 0, -1, 0), -1);
        due("fit(what = 2)", x.fit(0, INTS, 0, 1, 2), -1);
        due("fit(what = -1)", x.fit(0, INTS, 0, 1, -1), -1);
        due("fit of sheet 4", x.fit(4, INTS, 0, 1, 0), -1);
        due("fit of lane 3", x.fit(0, 3, 0, 1, 0), -1);
        due("fit of no sheet", x.fit(1, INTS, 99, 1, 0), -11);
        due("fit(what = 2) of no sheet", x.fit(1, INTS, 99, 1, 2), -1);
        due("fit of longs", x.fit(0, LONGS, 99, 1, 0), -12);
        due("fit from item 6 on", x.fit(0, INTS, 6, 8, 0), -13);
        due("fit from item -1 on", x.fit(0, INTS, -1, 1, 0), -13);
        due("fit from item MAX on", x.fit(0, INTS, MAX, 8, 0), -13);
        fill(x, 1, SHORTS, 60, 4, 6, 8, 62, 59, 22);
        due("fit(0) of 60", x.fit(1, SHORTS, 0, 1, 0), 55);
        due("fit(1) of 60: the first of like ones", x.fit(1, SHORTS, 0, 1, 1), 260);
        due("fit(1) of 4", x.fit(1, SHORTS, 1, 1, 1), 204);
        due("fit(1) of 6: by 2 and 3, 2 and 6, 3 and 6", x.fit(1, SHORTS, 2, 1, 1), 203);
        due("fit(0) of 4 and 6", x.fit(1, SHORTS, 1, 2, 0), 0);
        due("fit(0) of 8", x.fit(1, SHORTS, 3, 1, 0), 3);
        due("fit(0) of 62: 2 and 31", x.fit(1, SHORTS, 4, 1, 0), 1);
        due("fit(1) of 62", x.fit(1, SHORTS, 4, 1, 1), 231);
        due("fit(0) of 59", x.fit(1, SHORTS, 5, 1, 0), 0);
        x.item(1, SHORTS, 5, 122);
        due("fit(0) of 122: 61 is too much", x.fit(1, SHORTS, 5, 1, 0), 0);
        x.item(1, SHORTS, 5, 118);
        due("fit(1) of 118: 2 and 59", x.fit(1, SHORTS, 5, 1, 1), 259);
        fill(x, 2, LONGS, (1L << 32) + 60);
        due("fit of a long above", x.fit(2, LONGS, 0, 1, 0), -2);
    }

    private static void film() {
        WholeMarks x = new WholeMarks();
        x.bolt(0, 70000);
        x.bolt(1, 99999);
        x.bolt(2, 300);
        x.sheet(0, SHORTS, 5);
        due("film(0, SHORTS, 1)", x.film(0, SHORTS, 1), 3);
        due("film(0, SHORTS, 3)", x.film(0, SHORTS, 3), -13);
        due("film(0, SHORTS, -1)", x.film(0, SHORTS, -1), -13);
        due("film(0, SHORTS, MAX)", x.film(0, SHORTS, MAX), -13);
        due("film(0, INTS, 9)", x.film(0, INTS, 9), -12);
        due("film(1, INTS, 9)", x.film(1, INTS, 9), -11);
        due("film(4, INTS, 0)", x.film(4, INTS, 0), -1);
        due("film(-1, INTS, 0)", x.film(-1, INTS, 0), -1);
        due("film(0, 3, 0)", x.film(0, 3, 0), -1);
        due("70000 as a short is 4464", isItem(x, 0, SHORTS, 1, 4464) ? 1 : 0, 1);
        x.buyer(1);
        due("99999 as a short is below 0", x.leaves(0, SHORTS, 2), -2);
        due("300", isItem(x, 0, SHORTS, 3, 300) ? 1 : 0, 1);
        due("the item ahead stays", x.fit(0, SHORTS, 0, 1, 0), -2);
        due("the item behind stays", x.fit(0, SHORTS, 4, 1, 0), -2);
        x.sheet(0, INTS, 3);
        due("film(0, INTS, 0)", x.film(0, INTS, 0), 3);
        x.buyer(9999);
        due("70000 as an int", x.leaves(0, INTS, 0), 1);
        x.sheet(1, LONGS, 4);
        due("film(1, LONGS, 1)", x.film(1, LONGS, 1), 3);
        due("99999 is 3 by 3 by 41 by 271", x.fit(1, LONGS, 2, 1, 0), 3);
        x = new WholeMarks();
        x.sheet(0, SHORTS, 2);
        due("film of no bolts", x.film(0, SHORTS, 2), 0);
        due("film of no bolts: INDEX all the same", x.film(0, SHORTS, 3), -13);
        x = withBolts(0, 180, 200);
        x.cut(0, 180);
        fill(x, 0, SHORTS, 7, 7);
        due("film of a bolt that is 0", x.film(0, SHORTS, 0), 2);
        due("0 stands there", x.fit(0, SHORTS, 0, 1, 0), -2);
        due("200", isItem(x, 0, SHORTS, 1, 200) ? 1 : 0, 1);
    }

    private static void sheet() {
        WholeMarks x = new WholeMarks();
        due("sheet(0, 0, 0)", x.sheet(0, SHORTS, 0), 0);
        due("sheet(1, 1, 16)", x.sheet(1, INTS, 16), 16);
        due("sheet(3, 2, 5)", x.sheet(3, LONGS, 5), 5);
        due("sheet(2, 0, 17)", x.sheet(2, SHORTS, 17), -1);
        due("sheet(2, 0, MAX)", x.sheet(2, SHORTS, MAX), -1);
        due("sheet(2, 0, -1)", x.sheet(2, SHORTS, -1), -14);
        due("sheet(2, 0, MIN)", x.sheet(2, SHORTS, MIN), -14);
        due("sheet(4, 0, -1): BAD is ahead", x.sheet(4, SHORTS, -1), -1);
        due("sheet(2, 3, -1): BAD is ahead", x.sheet(2, 3, -1), -1);
        due("sheet(-1, 0, 1)", x.sheet(-1, SHORTS, 1), -1);
        due("sheet(2, -1, 1)", x.sheet(2, -1, 1), -1);
        due("drop(2) after what was refused", x.drop(2), -11);
        due("sheet(1, 1, -1)", x.sheet(1, INTS, -1), -14);
        due("item 15 after what was refused", x.item(1, INTS, 15, 60), 1);
        due("the row of an int", x.fit(1, INTS, 15, 1, 0), 55);
        due("sheet(1, 1, 16) anew", x.sheet(1, INTS, 16), 16);
        x.buyer(1);
        due("new items are 0", x.leaves(1, INTS, 15), -4);
        due("sheet(1, 2, 3) of another lane", x.sheet(1, LONGS, 3), 3);
        due("item(1, 1, 0)", x.item(1, INTS, 0, 1), -12);
        due("item(1, 2, 3)", x.item(1, LONGS, 3, 1), -13);
        due("drop(1)", x.drop(1), 3);
    }

    private static void drop() {
        WholeMarks x = new WholeMarks();
        x.sheet(0, SHORTS, 0);
        x.sheet(3, LONGS, 16);
        due("drop(0)", x.drop(0), 0);
        due("drop(0) again", x.drop(0), -11);
        due("drop(3)", x.drop(3), 16);
        due("item of what is dropped", x.item(3, LONGS, 0, 1), -11);
        due("leaves of what is dropped", x.leaves(3, LONGS, 0), -11);
        due("copy of what is dropped", x.copy(3, 0, 3, 0, 0), -11);
        due("drop(4)", x.drop(4), -1);
        due("drop(-1)", x.drop(-1), -1);
        due("drop(MIN)", x.drop(MIN), -1);
    }

    private static void item() {
        WholeMarks x = new WholeMarks();
        x.sheet(0, SHORTS, 2);
        x.sheet(1, INTS, 2);
        x.sheet(2, LONGS, 2);
        due("item(0, 0, 1, 1 << 16 and 500)", x.item(0, SHORTS, 1, (1L << 16) + 500), 1);
        due("item(1, 1, 1, 1 << 32 and 500)", x.item(1, INTS, 1, (1L << 32) + 500), 1);
        due("item(2, 2, 1, 500)", x.item(2, LONGS, 1, 500), 1);
        for (int s = 0; s < 3; s++) {
            due("item 1 of sheet " + s, isItem(x, s, s, 1, 500) ? 1 : 0, 1);
            due("item 0 of sheet " + s + " stays", x.fit(s, s, 0, 1, 0), -2);
        }
        x.buyer(1);
        x.item(0, SHORTS, 0, 32768);
        due("32768 as a short is below 0", x.leaves(0, SHORTS, 0), -2);
        x.item(0, SHORTS, 0, 32767);
        due("32767 as a short", x.leaves(0, SHORTS, 0), 1);
        x.item(1, INTS, 0, 32768);
        due("32768 as an int", x.leaves(1, INTS, 0), 1);
        x.item(1, INTS, 0, 1L << 31);
        due("1 << 31 as an int is below 0", x.leaves(1, INTS, 0), -2);
        x.item(1, INTS, 0, 1L << 40);
        due("1 << 40 as an int is 0", x.leaves(1, INTS, 0), -4);
        x.item(2, LONGS, 0, 1L << 40);
        due("1 << 40 as a long", x.leaves(2, LONGS, 0), -2);
        due("item(0, 0, 2)", x.item(0, SHORTS, 2, 1), -13);
        due("item(0, 0, -1)", x.item(0, SHORTS, -1, 1), -13);
        due("item(0, 0, MIN)", x.item(0, SHORTS, MIN, 1), -13);
        due("item(0, 0, MAX)", x.item(0, SHORTS, MAX, 1), -13);
        due("item(0, 1, 2): CAST is ahead", x.item(0, INTS, 2, 1), -12);
        due("item(3, 1, 2): NULL is ahead", x.item(3, INTS, 2, 1), -11);
        due("item(4, 1, 0)", x.item(4, INTS, 0, 1), -1);
        due("item(-1, 1, 0)", x.item(-1, INTS, 0, 1), -1);
        due("item(0, 3, 0)", x.item(0, 3, 0, 1), -1);
        due("item(3, -1, 0)", x.item(3, -1, 0, 1), -1);
        x.sheet(3, INTS, 0);
        due("item(3, 1, 0) of no items", x.item(3, INTS, 0, 1), -13);
    }

    private static void copy() {
        WholeMarks x = new WholeMarks();
        fill(x, 0, INTS, 100, 200, 300, 400, 500);
        due("copy up the same row", x.copy(0, 0, 0, 1, 4), 4);
        dueItems(x, 0, INTS, 100, 100, 200, 300, 400);
        due("copy down the same row", x.copy(0, 2, 0, 0, 3), 3);
        dueItems(x, 0, INTS, 200, 300, 400, 300, 400);
        fill(x, 1, INTS, 10, 20, 30);
        due("copy to another", x.copy(0, 3, 1, 1, 2), 2);
        dueItems(x, 1, INTS, 10, 300, 400);
        dueItems(x, 0, INTS, 200, 300, 400, 300, 400);
        due("copy nothing at the ends", x.copy(0, 5, 1, 3, 0), 0);
        due("copy nothing behind the end", x.copy(0, 6, 1, 3, 0), -13);
        due("copy nothing to behind the end", x.copy(0, 5, 1, 4, 0), -13);
        due("copy nothing ahead", x.copy(0, -1, 1, 0, 0), -13);
        due("copy nothing to ahead", x.copy(0, 0, 1, -1, 0), -13);
        due("copy too many of the first", x.copy(0, 3, 1, 0, 3), -13);
        due("copy too many for the second", x.copy(0, 0, 1, 1, 3), -13);
        due("copy -1", x.copy(0, 0, 1, 0, -1), -13);
        due("copy MIN", x.copy(0, 0, 1, 0, MIN), -13);
        due("copy MAX", x.copy(0, MAX, 1, MAX, MAX), -13);
        dueItems(x, 1, INTS, 10, 300, 400);
        x.sheet(2, LONGS, 3);
        due("copy to longs", x.copy(0, 0, 2, 0, 1), -12);
        due("copy to longs: CAST is ahead of INDEX", x.copy(0, -1, 2, 0, -1), -12);
        due("copy to nothing", x.copy(0, -1, 3, 0, 1), -11);
        due("copy of nothing", x.copy(3, -1, 0, 0, 1), -11);
        due("copy of sheet 4", x.copy(4, 0, 3, 0, 1), -1);
        due("copy of sheet -1", x.copy(-1, 0, 0, 0, 1), -1);
        due("copy to sheet 4", x.copy(3, 0, 4, 0, 1), -1);
        due("copy to sheet -1", x.copy(0, 0, -1, 0, 1), -1);
    }
}
