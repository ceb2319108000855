/** Each sentence with a boundary case in promises 1 to 8, and in the terms that they stand on. */
public final class TownsSentencesTest extends Sentences {
    public static void main(String[] args) {
        answersBelowZero();
        newObject();
        calls();
        measure();
        rule();
        seam();
        placeBounds();
        placeWhere();
        places();
        bolt();
        told();
        tellAndExit();
    }

    private static void answersBelowZero() {
        says("Terms", "BAD -1, NOT -2, FULL -3, NONE -4, NULL -11, CAST -12, INDEX -13, SIZE -14");
        due("BAD", WholeMarks.BAD, -1);
        due("NOT", WholeMarks.NOT, -2);
        due("FULL", WholeMarks.FULL, -3);
        due("NONE", WholeMarks.NONE, -4);
        due("NULL", WholeMarks.NULL, -11);
        due("CAST", WholeMarks.CAST, -12);
        due("INDEX", WholeMarks.INDEX, -13);
        due("SIZE", WholeMarks.SIZE, -14);
    }

    private static void newObject() {
        says("Promise 1", "No bolt");
        WholeMarks x = new WholeMarks();
        due("count(0)", x.count(0), 0);
        due("count(1)", x.count(1), 0);
        due("told(0, 0)", x.told(0, 0), -1);
        due("cut(0, 180)", x.cut(0, 180), -1);
        due("bolt(0, 1)", x.bolt(0, 1), 0);
        says("Promise 1", "no buyer");
        x = new WholeMarks();
        due("count(3)", x.count(3), 0);
        due("count(4)", x.count(4), 0);
        due("price(1)", x.price(1), -1);
        due("home()", x.home(), 0);
        due("buyer(1)", x.buyer(1), 0);
        says("Promise 1", "a new object has nothing of another one");
        x = withBolts(0, 200);
        x.buyer(5);
        x.cut(0, 180);
        x.measure(0, 7);
        x.rule(7, 1);
        x.seam(9);
        x.rate(0, 1, 9, 1);
        x.sheet(0, INTS, 3);
        x.type('1', 1);
        x.image();
        dueAsAtFirst(new WholeMarks());
        says("Terms", "36, 30, 45 at first; the set 3 at first; 0 ALL (at first); 2 inches at first; 1 by 1 at first; nothing (at first)");
        dueAsAtFirst(new WholeMarks());
    }

    private static void dueAsAtFirst(WholeMarks x) {
        due("count(0)", x.count(0), 0);
        due("count(2)", x.count(2), 0);
        due("count(3)", x.count(3), 0);
        due("count(5)", x.count(5), 0);
        due("place(1)", x.place(1), 180);
        due("measure(0, 1)", x.measure(0, 1), 36);
        due("measure(1, 1)", x.measure(1, 1), 30);
        due("measure(2, 1)", x.measure(2, 1), 45);
        due("rule(3, 0)", x.rule(3, 0), 30);
        due("seam(2)", x.seam(2), 2);
        for (int from = 0; from < 4; from++) {
            for (int to = 0; to < 4; to++) {
                due("rate(" + from + ", " + to + ", 2, 3)", x.rate(from, to, 2, 3), from == to ? -1 : 101);
            }
        }
        due("restore()", x.restore(), -4);
        due("type('1', 1)", x.type('1', 1), 1);
        for (int s = 0; s < 4; s++) {
            due("drop(" + s + ")", x.drop(s), -11);
        }
    }

    private static void calls() {
        says("What it is", "at most 512 calls after it has been made: the last of them too");
        WholeMarks x = new WholeMarks();
        int seam = 2;
        for (int call = 1; call <= 512; call++) {
            due("seam(" + call % 100 + "), call " + call, x.seam(call % 100), seam);
            seam = call % 100;
        }
    }

    private static void measure() {
        says("Promise 2", "MEASURE of a TOWN: what it was (of that TOWN, by the last call that was not refused)");
        WholeMarks x = new WholeMarks();
        due("measure(0, 7)", x.measure(0, 7), 36);
        due("measure(1, 8)", x.measure(1, 8), 30);
        due("measure(2, 9)", x.measure(2, 9), 45);
        due("measure(0, 7)", x.measure(0, 7), 7);
        due("measure(1, 8)", x.measure(1, 8), 8);
        due("measure(2, 9)", x.measure(2, 9), 9);
        says("Promise 2", "a MEASURE 1 .. 999: just inside");
        for (int town = 0; town < 3; town++) {
            x = new WholeMarks();
            x.measure(town, 1);
            due("measure(" + town + ", 999) behind 1", x.measure(town, 999), 1);
            due("measure(" + town + ", 2) behind 999", x.measure(town, 2), 999);
            due("measure(" + town + ", 998) behind 2", x.measure(town, 998), 2);
            due("measure(" + town + ", 5) behind 998", x.measure(town, 5), 998);
        }
        says("Promise 2", "a MEASURE 1 .. 999: just outside is BAD");
        for (int v : new int[] {0, 1000, -1, 1001, MIN, MAX}) {
            for (int town = 0; town < 3; town++) {
                due("measure(" + town + ", " + v + ")", new WholeMarks().measure(town, v), -1);
            }
        }
        says("Promise 2", "TOWNS 0, 1, 2: any other is BAD");
        for (int town : new int[] {-1, 3, 4, MIN, MAX}) {
            due("measure(" + town + ", 5)", new WholeMarks().measure(town, 5), -1);
            due("measure(" + town + ", 0)", new WholeMarks().measure(town, 0), -1);
        }
        says("Promise 2", "what is refused changes nothing");
        x = new WholeMarks();
        for (int v : new int[] {0, 1000}) {
            x.measure(0, v);
            x.measure(1, v);
            x.measure(2, v);
        }
        x.measure(-1, 5);
        x.measure(3, 5);
        due("measure(0, 1)", x.measure(0, 1), 36);
        due("measure(1, 1)", x.measure(1, 1), 30);
        due("measure(2, 1)", x.measure(2, 1), 45);
        says("Promise 2", "PLACES are by the MEASURES of now");
        x = new WholeMarks();
        due("place(1)", x.place(1), 180);
        x.measure(0, 1);
        due("place(1)", x.place(1), 30);
        x.measure(1, 1);
        due("place(1)", x.place(1), 1);
        x.measure(0, 999);
        due("place(1)", x.place(1), 999);
    }

    private static void rule() {
        says("Promise 3", "a set of two or three: 3, 5, 6, 7; 10 times the set that COUNTED, and the LAW that was");
        int before = 30;
        WholeMarks x = new WholeMarks();
        for (int set : new int[] {3, 5, 6, 7}) {
            for (int law = 0; law < 2; law++) {
                due("rule(" + set + ", " + law + ")", x.rule(set, law), before);
                before = 10 * set + law;
            }
        }
        says("Promise 3", "a set of two or three: any other is BAD");
        for (int set = -16; set <= 70; set++) {
            if (set != 3 && set != 5 && set != 6 && set != 7) {
                due("rule(" + set + ", 0)", new WholeMarks().rule(set, 0), -1);
            }
        }
        due("rule(MIN, 0)", new WholeMarks().rule(MIN, 0), -1);
        due("rule(MIN + 3, 0)", new WholeMarks().rule(MIN + 3, 0), -1);
        due("rule(MAX, 0)", new WholeMarks().rule(MAX, 0), -1);
        says("Promise 3", "LAW (0, 1): any other is BAD");
        for (int law : new int[] {-1, 2, 3, MIN, MAX}) {
            due("rule(3, " + law + ")", new WholeMarks().rule(3, law), -1);
            due("rule(7, " + law + ")", new WholeMarks().rule(7, law), -1);
        }
        says("Promise 3", "what is refused changes nothing: neither the set nor the LAW");
        x = new WholeMarks();
        x.rule(7, 2);
        x.rule(7, -1);
        x.rule(8, 1);
        x.rule(4, 1);
        due("rule(6, 1)", x.rule(6, 1), 30);
        x.rule(5, 2);
        x.rule(0, 0);
        due("rule(3, 0)", x.rule(3, 0), 61);
        says("Terms", "Sets are bits: which TOWNS COUNT");
        due("place(1) of the set 3", withMeasures(2, 3, 5, 3, 0).place(1), 6);
        due("place(1) of the set 5", withMeasures(2, 3, 5, 5, 0).place(1), 10);
        due("place(1) of the set 6", withMeasures(2, 3, 5, 6, 0).place(1), 15);
        due("place(1) of the set 7", withMeasures(2, 3, 5, 7, 0).place(1), 30);
    }

    private static void seam() {
        says("Promise 4", "SEAM: what it was; 0 .. 99: just inside");
        WholeMarks x = new WholeMarks();
        due("seam(0)", x.seam(0), 2);
        due("seam(99)", x.seam(99), 0);
        due("seam(1)", x.seam(1), 99);
        due("seam(98)", x.seam(98), 1);
        due("seam(2)", x.seam(2), 98);
        says("Promise 4", "0 .. 99: just outside is BAD");
        for (int v : new int[] {-1, 100, -2, 101, MIN, MAX}) {
            due("seam(" + v + ")", new WholeMarks().seam(v), -1);
        }
        says("Promise 4", "what is refused changes nothing");
        x = new WholeMarks();
        x.seam(-1);
        x.seam(100);
        due("seam(5)", x.seam(5), 2);
        says("Promise 4", "a SEAM of 0 and one of 99 are taken as told");
        x = withBolts(0, 60, 60, 60, 60);
        x.seam(0);
        due("join(0, 1)", x.join(0, 1), 120);
        x.seam(99);
        due("join(2, 3)", x.join(2, 3), 21);
    }

    private static void placeBounds() {
        says("Promise 5", "the i-th PLACE (1 .. 999999): just inside");
        WholeMarks x = new WholeMarks();
        due("place(1)", x.place(1), 180);
        due("place(2)", x.place(2), 360);
        due("place(999998)", x.place(999998), 179999640L);
        due("place(999999)", x.place(999999), 179999820L);
        says("Promise 5", "the i-th PLACE (1 .. 999999): just outside is BAD");
        for (int i : new int[] {0, 1000000, -1, 1000001, MIN, MAX}) {
            due("place(" + i + ")", x.place(i), -1);
            due("place(" + i + ") of two", withMeasures(2, 3, 5, 7, 1).place(i), -1);
        }
        says("Promise 5", "told however far: farther than an int");
        due("place(999999) of all", withMeasures(999, 998, 997, 7, 0).place(999999), 994009999989006L);
        due("place(999999) of two", withMeasures(999, 998, 997, 7, 1).place(999999), 332222776668L);
        due("place(999998) of two", withMeasures(997, 998, 999, 7, 1).place(999998), 332222553340L);
        due("place(999999) of every inch", withMeasures(1, 1, 1, 7, 1).place(999999), 999999);
        due("place(999999) of 999 alone", withMeasures(999, 999, 999, 7, 0).place(999999), 998999001L);
    }

    private static void duePlaces(WholeMarks x, int... places) {
        for (int i = 1; i <= places.length; i++) {
            due("place(" + i + ")", x.place(i), places[i - 1]);
        }
    }

    private static void placeWhere() {
        says("Terms", "LAW 0 ALL: so many times the MEASURE of each TOWN that COUNTS");
        duePlaces(withMeasures(4, 6, 5, 3, 0), 12, 24, 36);
        duePlaces(withMeasures(4, 6, 10, 7, 0), 60, 120, 180);
        duePlaces(withMeasures(5, 5, 1, 3, 0), 5, 10, 15);
        duePlaces(withMeasures(3, 12, 1, 3, 0), 12, 24, 36);
        says("Terms", "a PLACE is a length above 0");
        due("places(0)", withMeasures(1, 1, 1, 3, 0).places(0), 0);
        due("place(1) of every inch", withMeasures(1, 1, 1, 3, 0).place(1), 1);
        due("place(1) of every inch by two", withMeasures(1, 1, 1, 7, 1).place(1), 1);
        says("Terms", "1 TWO: of two of them (each such two); what is whole in all three is one PLACE");
        duePlaces(withMeasures(2, 3, 5, 7, 1), 6, 10, 12, 15, 18, 20, 24, 30, 36, 40, 42);
        duePlaces(withMeasures(5, 2, 3, 7, 1), 6, 10, 12, 15, 18, 20, 24, 30, 36, 40, 42);
        duePlaces(withMeasures(3, 5, 2, 7, 1), 6, 10, 12, 15, 18, 20, 24, 30, 36, 40, 42);
        says("Terms", "1 TWO of alike MEASURES, and of one that is whole in another");
        duePlaces(withMeasures(4, 4, 4, 7, 1), 4, 8, 12, 16);
        duePlaces(withMeasures(4, 4, 6, 7, 1), 4, 8, 12, 16);
        duePlaces(withMeasures(6, 4, 4, 7, 1), 4, 8, 12, 16);
        duePlaces(withMeasures(4, 6, 4, 7, 1), 4, 8, 12, 16);
        duePlaces(withMeasures(12, 6, 4, 7, 1), 12, 24, 36);
        duePlaces(withMeasures(1, 5, 7, 7, 1), 5, 7, 10, 14, 15, 20, 21, 25, 28, 30, 35);
        says("Terms", "1 TWO of a set of two is both of them");
        duePlaces(withMeasures(2, 3, 5, 3, 1), 6, 12, 18, 24, 30, 36);
        duePlaces(withMeasures(2, 3, 5, 5, 1), 10, 20, 30, 40);
        duePlaces(withMeasures(2, 3, 5, 6, 1), 15, 30, 45, 60);
    }

    private static void places() {
        long most = 1000000000000000L;
        says("Promise 6", "a length (0 .. 10^15): just inside");
        WholeMarks x = new WholeMarks();
        due("places(0)", x.places(0), 0);
        due("places(1)", x.places(1), 0);
        due("places(10^15)", x.places(most), 5555555555555L);
        due("places(10^15 - 1)", x.places(most - 1), 5555555555555L);
        due("places(10^15) of every inch", withMeasures(1, 1, 1, 3, 0).places(most), most);
        due("places(10^15 - 1) of every inch", withMeasures(1, 1, 1, 3, 0).places(most - 1), most - 1);
        due("places(1) of every inch", withMeasures(1, 1, 1, 7, 1).places(1), 1);
        says("Promise 6", "a length (0 .. 10^15): just outside is BAD");
        for (long length : new long[] {-1, most + 1, -180, Long.MIN_VALUE, Long.MAX_VALUE, 1L << 50}) {
            due("places(" + length + ")", x.places(length), -1);
        }
        says("Promise 6", "how many are no more than a length: a PLACE itself is one of them");
        x = withMeasures(2, 3, 5, 7, 1);
        int[] due = {0, 0, 0, 0, 0, 0, 1, 1, 1, 1, 2, 2, 3, 3, 3, 4, 4, 4, 5, 5, 6, 6, 6, 6, 7, 7, 7, 7, 7, 7, 8, 8};
        for (int length = 0; length < due.length; length++) {
            due("places(" + length + ")", x.places(length), due[length]);
        }
        x.rule(3, 0);
        due("places(5)", x.places(5), 0);
        due("places(6)", x.places(6), 1);
        due("places(11)", x.places(11), 1);
        due("places(12)", x.places(12), 2);
        says("Promise 6", "told however far: by LAW 1 too");
        due("places(10^15)", withMeasures(999, 998, 997, 7, 1).places(most), 3010027070L);
        due("places(10^15)", withMeasures(999, 998, 997, 7, 0).places(most), 1006025);
        due("places(10^15)", withMeasures(36, 30, 45, 7, 1).places(most), 11111111111111L);
    }

    private static void bolt() {
        says("Promise 7", "a BOLT: its number; BOLTS 0 .. 7, as they come");
        WholeMarks x = new WholeMarks();
        for (int b = 0; b < 8; b++) {
            due("bolt(" + b % 4 + ", " + (10 + b) + ")", x.bolt(b % 4, 10 + b), b);
            due("count(0)", x.count(0), b + 1);
        }
        for (int b = 0; b < 8; b++) {
            due("told(" + b + ", 0)", x.told(b, 0), b % 4);
            due("told(" + b + ", 1)", x.told(b, 1), 10 + b);
        }
        says("Promise 7", "FULL: 8; and nothing comes");
        for (int b = 0; b < 3; b++) {
            due("bolt(0, 500)", x.bolt(0, 500), -3);
        }
        due("count(0)", x.count(0), 8);
        due("count(1)", x.count(1), 108);
        due("told(7, 1)", x.told(7, 1), 17);
        says("Promise 7", "FULL: 8; a BOLT of 0 inches is still one of them");
        x = withBolts(0, 180, 10, 10, 10, 10, 10, 10, 10);
        x.cut(0, 180);
        due("count(0)", x.count(0), 8);
        due("bolt(0, 5)", x.bolt(0, 5), -3);
        says("Promise 7", "a length of 1 .. 99999 as they come: just inside");
        for (int cloth = 0; cloth < 4; cloth++) {
            x = withBolts(cloth, 1, 2, 99998, 99999);
            due("told(0, 1)", x.told(0, 1), 1);
            due("told(1, 1)", x.told(1, 1), 2);
            due("told(2, 1)", x.told(2, 1), 99998);
            due("told(3, 1)", x.told(3, 1), 99999);
        }
        says("Promise 7", "a length of 1 .. 99999 as they come: just outside is BAD");
        for (int length : new int[] {0, 100000, -1, 100001, MIN, MAX}) {
            due("bolt(0, " + length + ")", new WholeMarks().bolt(0, length), -1);
            due("bolt(3, " + length + ")", new WholeMarks().bolt(3, length), -1);
        }
        says("Promise 7", "a CLOTH 0 .. 3: any other is BAD");
        for (int cloth : new int[] {-1, 4, 5, MIN, MAX}) {
            due("bolt(" + cloth + ", 5)", new WholeMarks().bolt(cloth, 5), -1);
        }
        says("Promise 7", "BAD is ahead of FULL");
        x = withBolts(0, 1, 1, 1, 1, 1, 1, 1, 1);
        due("bolt(4, 5)", x.bolt(4, 5), -1);
        due("bolt(-1, 5)", x.bolt(-1, 5), -1);
        due("bolt(0, 0)", x.bolt(0, 0), -1);
        due("bolt(0, 100000)", x.bolt(0, 100000), -1);
        says("Promise 7", "what is BAD changes nothing: no BOLT, and the next takes the next number");
        x = withBolts(0, 7);
        x.bolt(0, 0);
        x.bolt(4, 1);
        x.bolt(0, 100000);
        due("count(0)", x.count(0), 1);
        due("count(1)", x.count(1), 7);
        due("bolt(0, 1)", x.bolt(0, 1), 1);
    }

    private static void told() {
        says("Promise 8", "no such BOLT is BAD: none yet, below 0, just above the last, above 7");
        for (int bolt : new int[] {0, 1, -1, 7, 8, MIN, MAX}) {
            for (int what = 0; what < 3; what++) {
                due("told(" + bolt + ", " + what + ") of none", new WholeMarks().told(bolt, what), -1);
            }
        }
        WholeMarks x = withBolts(2, 180, 200);
        due("told(1, 1)", x.told(1, 1), 200);
        due("told(2, 1)", x.told(2, 1), -1);
        due("told(-1, 1)", x.told(-1, 1), -1);
        x = withBolts(2, 1, 1, 1, 1, 1, 1, 1, 9);
        due("told(7, 1)", x.told(7, 1), 9);
        due("told(8, 1)", x.told(8, 1), -1);
        says("Promise 8", "what is 0, 1, 2: any other is BAD");
        for (int what : new int[] {-1, 3, 4, MIN, MAX}) {
            due("told(0, " + what + ")", x.told(0, what), -1);
        }
        says("Promise 8", "2 the greatest PLACE in it (0: none): just below a PLACE, at it, just above");
        x = withBolts(0, 1, 179, 180, 181, 359, 360, 99999);
        int[] due = {0, 0, 180, 180, 180, 360, 99900};
        for (int b = 0; b < due.length; b++) {
            due("told(" + b + ", 2)", x.told(b, 2), due[b]);
        }
        says("Promise 8", "2 the greatest PLACE in it, by LAW 1 of any two");
        x = withBolts(0, 5, 6, 9, 10, 14, 15, 17, 18);
        x.measure(0, 2);
        x.measure(1, 3);
        x.measure(2, 5);
        x.rule(7, 1);
        due = new int[] {0, 6, 6, 10, 12, 15, 15, 18};
        for (int b = 0; b < due.length; b++) {
            due("told(" + b + ", 2)", x.told(b, 2), due[b]);
        }
        says("Promise 8", "of a BOLT of 0 inches: its CLOTH, 0, no PLACE");
        x = withBolts(2, 180);
        x.cut(0, 180);
        due("told(0, 0)", x.told(0, 0), 2);
        due("told(0, 1)", x.told(0, 1), 0);
        due("told(0, 2)", x.told(0, 2), 0);
    }
}
