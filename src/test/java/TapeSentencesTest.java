/** Each sentence with a boundary case in promises 11 and 12, and in the terms that they stand on. */
public final class TapeSentencesTest extends Sentences {
    private static final long EIGHT = 0x4142434445464748L;

    public static void main(String[] args) {
        typeBounds();
        typeBytes();
        typeFull();
        typeChangesNothing();
        typeOrder();
        townsRead();
        townsDefaults();
        townsLeave();
        faultsOfNumbers();
        faultsBetween();
        faultsOfDigits();
        faultsBehind();
        faultsAtEnd();
        tellAndExit();
    }

    /** With a tape of so many bytes. */
    private static WholeMarks withTape(int bytes) {
        WholeMarks x = new WholeMarks();
        write(x, "x".repeat(bytes));
        return x;
    }

    private static void typeBounds() {
        says("Promise 11", "how many it has");
        for (int bytes = 0; bytes < 40; bytes++) {
            due("type('A', 1) behind " + bytes, withTape(bytes).type('A', 1), bytes + 1);
        }
        says("Promise 11", "the n lowest bytes (1 .. 8): just inside");
        for (int n = 1; n <= 8; n++) {
            due("type(eight, " + n + ")", new WholeMarks().type(EIGHT, n), n);
        }
        says("Promise 11", "the n lowest bytes (1 .. 8): just outside is BAD");
        for (int n : new int[] {0, 9, -1, 10, MIN, MAX}) {
            due("type(eight, " + n + ")", new WholeMarks().type(EIGHT, n), -1);
        }
    }

    private static void typeBytes() {
        says("Promise 11", "BAD: a byte not 32 .. 126");
        for (int sign = 0; sign < 256; sign++) {
            due("type(" + sign + ", 1)", new WholeMarks().type(sign, 1), sign >= 32 && sign <= 126 ? 1 : -1);
        }
        says("Promise 11", "BAD: a byte, whichever of the n lowest it is");
        for (int n = 1; n <= 8; n++) {
            for (int at = 0; at < n; at++) {
                long hole = EIGHT & ~(0xFFL << 8 * at);
                due("type(31 at " + at + ", " + n + ")", new WholeMarks().type(hole | 31L << 8 * at, n), -1);
                due("type(127 at " + at + ", " + n + ")", new WholeMarks().type(hole | 127L << 8 * at, n), -1);
                due("type(32 at " + at + ", " + n + ")", new WholeMarks().type(hole | 32L << 8 * at, n), n);
                due("type(126 at " + at + ", " + n + ")", new WholeMarks().type(hole | 126L << 8 * at, n), n);
            }
        }
        says("Promise 11", "only the n lowest bytes are asked");
        for (int n = 1; n < 8; n++) {
            due("type(31 above " + n + ")", new WholeMarks().type(0x1F1F1F1F1F1F1F1FL << 8 * n | EIGHT >>> 8 * (8 - n), n), n);
            due("type(255 above " + n + ")", new WholeMarks().type(-1L << 8 * n | EIGHT >>> 8 * (8 - n), n), n);
        }
    }

    private static void typeFull() {
        says("Promise 11", "FULL: 40 is just inside, 41 is above");
        for (int n = 1; n <= 8; n++) {
            due("type(eight, " + n + ") up to 40", withTape(40 - n).type(EIGHT, n), 40);
            due("type(eight, " + n + ") up to 41", withTape(41 - n).type(EIGHT, n), -3);
            due("type(eight, " + n + ") behind 40", withTape(40).type(EIGHT, n), -3);
        }
        says("Promise 11", "BAD is ahead of FULL");
        due("type(31, 1) behind 40", withTape(40).type(31, 1), -1);
        due("type(eight, 0) behind 40", withTape(40).type(EIGHT, 0), -1);
        due("type(eight, 9) behind 40", withTape(40).type(EIGHT, 9), -1);
        due("type(31 last, 8) behind 36", withTape(36).type(EIGHT & ~0xFFL | 31, 8), -1);
        due("type(31 first, 8) behind 36", withTape(36).type(0x1F42434445464748L, 8), -1);
    }

    private static void typeChangesNothing() {
        says("Promise 11", "what is FULL changes nothing: not even one byte comes");
        WholeMarks x = withTape(38);
        due("type(eight, 8)", x.type(EIGHT, 8), -3);
        due("type(eight, 3)", x.type(EIGHT, 3), -3);
        due("type(eight, 2)", x.type(EIGHT, 2), 40);
        x = new WholeMarks();
        write(x, "1,2,3                                 ");
        x.type(EIGHT, 8);
        due("towns()", x.towns(), 2);
        says("Promise 11", "what is BAD changes nothing: not even the bytes ahead of a bad one");
        x = new WholeMarks();
        x.type(0x31321FL, 3);
        x.type(0x1F3132L, 3);
        x.type(0x311F32L, 3);
        x.type(0x31, 0);
        x.type(0x31, 9);
        due("type('1', 1)", x.type('1', 1), 1);
        write(x, ",2,3");
        due("towns()", x.towns(), 2);
        due("measure(0, 9)", x.measure(0, 9), 1);
    }

    private static void typeOrder() {
        says("Promise 11", "of these the highest first, behind THE TAPE");
        WholeMarks x = new WholeMarks();
        x.type(0x312C322C33343536L, 4);
        due("type(\"1,2,\", 4)", x.type(0x312C322CL, 4), 8);
        due("towns(): the first was a 3", x.towns(), -20);
        x.type(0x312C322CL, 4);
        x.type(0x3334, 2);
        x.type(0x35, 1);
        due("towns()", x.towns(), 2);
        due("measure(0, 9)", x.measure(0, 9), 1);
        due("measure(1, 9)", x.measure(1, 9), 2);
        due("measure(2, 9)", x.measure(2, 9), 345);
        x.type(0x312C32332C343536L, 8);
        due("towns() of eight bytes", x.towns(), 2);
        due("measure(0, 9)", x.measure(0, 9), 1);
        due("measure(1, 9)", x.measure(1, 9), 23);
        due("measure(2, 9)", x.measure(2, 9), 456);
    }

    // ---- towns

    private static void townsRead() {
        says("Terms", "three numbers 1 .. 999 with , between: just inside");
        dueTowns("1,1,1", 2, 1, 1, 1, 30);
        dueTowns("999,999,999", 2, 999, 999, 999, 30);
        dueTowns("1,999,2", 2, 1, 999, 2, 30);
        dueTowns("998,1,999", 2, 998, 1, 999, 30);
        says("Terms", "a number may have 0s ahead");
        dueTowns("01,002,0003", 2, 1, 2, 3, 30);
        dueTowns("0999,00999,000999", 2, 999, 999, 999, 30);
        dueTowns("0".repeat(35) + "7,8,9", 2, 7, 8, 9, 30);
        says("Terms", "bytes 32 count for nothing");
        dueTowns(" 1 , 2 , 3 ; 0 2 t ", 2, 1, 2, 3, 51);
        dueTowns("   1,   2,   3   ;   2   1   0   t   ", 3, 1, 2, 3, 71);
        dueTowns("1,2,3                                   ", 2, 1, 2, 3, 30);
        dueTowns("                                   1,2,3", 2, 1, 2, 3, 30);
        says("Terms", "digits 0 .. 2, two or three, each once (which COUNT): how many COUNT");
        String[] digits = {"01", "10", "02", "20", "12", "21", "012", "021", "102", "120", "201", "210"};
        int[] sets = {3, 3, 5, 5, 6, 6, 7, 7, 7, 7, 7, 7};
        for (int i = 0; i < digits.length; i++) {
            dueTowns("7,8,9;" + digits[i], digits[i].length(), 7, 8, 9, 10 * sets[i]);
            dueTowns("7,8,9;" + digits[i] + "t", digits[i].length(), 7, 8, 9, 10 * sets[i] + 1);
        }
        says("Promise 12", "THE TAPE can be as long as it can be");
        dueTowns("0000000000000000000000999,999,999 ; 210t", 3, 999, 999, 999, 71);
    }

    private static void townsDefaults() {
        says("Terms", "perhaps ; (else 0 and 1)");
        dueTowns("7,8,9", 2, 7, 8, 9, 30);
        dueTowns("7,8,9t", 2, 7, 8, 9, 31);
        says("Terms", "perhaps t (LAW 1; else 0)");
        dueTowns("7,8,9;012", 3, 7, 8, 9, 70);
        dueTowns("7,8,9;012t", 3, 7, 8, 9, 71);
        says("Promise 12", "nothing stays of a text that was read ahead of it, or that was a FAULT");
        WholeMarks x = new WholeMarks();
        read(x, "7,8,9;012t");
        due("towns()", read(x, "4,5,6"), 2);
        due("rule(3, 0)", x.rule(3, 0), 30);
        due("towns()", read(x, "7,8,9;12t x"), -30);
        due("towns()", read(x, "4,5,6"), 2);
        due("rule(3, 0)", x.rule(3, 0), 30);
    }

    private static void townsLeave() {
        says("Promise 12", "THE TAPE is empty then");
        WholeMarks x = new WholeMarks();
        due("towns()", read(x, "7,8,9"), 2);
        due("towns() again", x.towns(), -20);
        read(x, "7,8,9");
        due("type('A', 1)", x.type('A', 1), 1);
        says("Promise 12", "THE TAPE is empty by a FAULT, too");
        due("towns()", x.towns(), -20);
        due("type('A', 1)", x.type('A', 1), 1);
        x = withTape(40);
        due("towns()", x.towns(), -20);
        due("towns() again", x.towns(), -20);
        due("type('A', 1)", x.type('A', 1), 1);
        says("Promise 12", "a FAULT (all else stays): also of a text that is right up to its end");
        dueFault("1,2,3;01t;", 9);
        dueFault("1,2,3;01tx", 9);
        dueFault("1,2,3 x", 6);
        x = withBolts(1, 400);
        x.buyer(5);
        x.seam(7);
        x.cut(0, 180);
        read(x, "1,2,3;01x");
        due("count(1)", x.count(1), 219);
        due("count(2)", x.count(2), 180);
        due("count(3)", x.count(3), 1);
        due("place(1)", x.place(1), 180);
        due("seam(2)", x.seam(2), 7);
        says("Promise 12", "TOWNS alone are taken: SEAM, BOLTS, BUYERS stay");
        x = withBolts(1, 400);
        x.buyer(5);
        x.seam(7);
        read(x, "1,2,3;01");
        due("count(1)", x.count(1), 400);
        due("count(4)", x.count(4), 5);
        due("place(1)", x.place(1), 2);
        due("seam(2)", x.seam(2), 7);
    }

    private static void faultsOfNumbers() {
        says("Terms", "FAULTS: of a number that may not be its first byte: 0, and above 999");
        dueFault("0,2,3", 0);
        dueFault("1,0,3", 2);
        dueFault("1,2,0", 4);
        dueFault("1000,2,3", 0);
        dueFault("1,1000,3", 2);
        dueFault("1,2,1000", 4);
        dueFault("0000,2,3", 0);
        dueFault("1,01000,3", 2);
        dueFault("1,2,9999999999999999999999999", 4);
        dueFault("  0,2,3", 2);
        dueFault("1,  1000,3", 4);
        dueFault("1,2, 000 ", 5);
        says("Terms", "FAULTS: of a number that comes round to a right one");
        dueFault("4294967297,2,3", 0);
        dueFault("1,18446744073709551617,3", 2);
        dueFault("1,2,4294967298", 4);
        dueFault("1,2,340282366920938463463374607431768211", 4);
        says("Terms", "FAULTS: bytes 32 end a number");
        dueFault("1 2,3,4", 2);
        dueFault("1,2 3,4", 4);
        dueFault("1,2,3 4", 6);
        dueFault("1,2,3 0", 6);
        dueFault("0 1,2,3", 0);
        dueFault("1,2,100 0", 8);
        says("Terms", "FAULTS: a number has no sign, no other byte");
        dueFault("-1,2,3", 0);
        dueFault("+1,2,3", 0);
        dueFault("1,-2,3", 2);
        dueFault("1,2,a", 4);
        dueFault("1.5,2,3", 1);
        dueFault("/,2,3", 0);
        dueFault(":,2,3", 0);
        dueFault("1/,2,3", 1);
        dueFault("1:,2,3", 1);
    }

    private static void faultsBetween() {
        says("Terms", "FAULTS: , between");
        dueFault(",1,2,3", 0);
        dueFault("1,,2,3", 2);
        dueFault("1;2,3", 1);
        dueFault("1,2;3", 3);
        dueFault("1,2t", 3);
        dueFault("1,2,,3", 4);
        dueFault("1,2,;01", 4);
        dueFault("1,2,t", 4);
        says("Terms", "FAULTS: three numbers, not four");
        dueFault("1,2,3,", 5);
        dueFault("1,2,3,4", 5);
        dueFault("1,2,3 ,4", 6);
    }

    private static void faultsOfDigits() {
        says("Terms", "FAULTS: digits are two at least");
        dueFault("1,2,3;t", 6);
        dueFault("1,2,3;0t", 7);
        dueFault("1,2,3; 1 t", 9);
        dueFault("1,2,3;;", 6);
        dueFault("1,2,3;2,", 7);
        says("Terms", "FAULTS: digits are three at most");
        dueFault("1,2,3;0120", 9);
        dueFault("1,2,3;0123", 9);
        dueFault("1,2,3;012 1", 10);
        says("Terms", "FAULTS: each digit once");
        dueFault("1,2,3;00", 7);
        dueFault("1,2,3;1 1", 8);
        dueFault("1,2,3;22t", 7);
        dueFault("1,2,3;010", 8);
        dueFault("1,2,3;011", 8);
        dueFault("1,2,3;122t", 8);
        says("Terms", "FAULTS: digits are 0 .. 2");
        dueFault("1,2,3;3", 6);
        dueFault("1,2,3;03", 7);
        dueFault("1,2,3;013", 8);
        dueFault("1,2,3;/1", 6);
        dueFault("1,2,3;0/", 7);
        dueFault("1,2,3;01/", 8);
        says("Terms", "FAULTS: digits have no , between");
        dueFault("1,2,3;0,1", 7);
        dueFault("1,2,3;01,2", 8);
    }

    private static void faultsBehind() {
        says("Terms", "FAULTS: then perhaps t: once, at the end, small");
        dueFault("1,2,3tt", 6);
        dueFault("1,2,3t t", 7);
        dueFault("1,2,3;01tt", 9);
        dueFault("1,2,3t;01", 6);
        dueFault("1,2,3;01t2", 9);
        dueFault("1,2,3T", 5);
        dueFault("1,2,3;01T", 8);
        dueFault("t1,2,3", 0);
        dueFault("1,2,3u", 5);
        dueFault("1,2,3s", 5);
        says("Terms", "FAULTS: ; once");
        dueFault("1,2,3;01;", 8);
        dueFault("1,2,3;01;12", 8);
        dueFault("1,2,3:01", 5);
        dueFault("1,2,3<01", 5);
        says("Terms", "FAULTS: the first byte (behind blanks)");
        dueFault("   x", 3);
        dueFault("1   x", 4);
        dueFault("1,   x", 5);
        dueFault("1,2,3;   x", 9);
        dueFault("1,2,3;0   x", 10);
        dueFault("1,2,3;01   x", 11);
        dueFault("1,2,3t   x", 9);
        says("Terms", "FAULTS: of two that can't stand there the first");
        dueFault("1,2x3;;", 3);
        dueFault("1000,0,x", 0);
        dueFault("1,0,0", 2);
    }

    private static void faultsAtEnd() {
        says("Terms", "FAULTS: the end: how many bytes there are, none too");
        dueFault("", 0);
        dueFault("1", 1);
        dueFault("12", 2);
        dueFault("1,", 2);
        dueFault("1,2", 3);
        dueFault("1,2,", 4);
        dueFault("1,2,3;", 6);
        dueFault("1,2,3;0", 7);
        says("Terms", "FAULTS: the end behind blanks");
        dueFault(" ", 1);
        dueFault("                                        ", 40);
        dueFault("1 ", 2);
        dueFault("1,2,  ", 6);
        dueFault("1,2,3;  ", 8);
        dueFault("1,2,3;0  ", 9);
        says("Terms", "FAULTS: the end of 40 bytes, and the last of them");
        dueFault("1,2                                     ", 40);
        dueFault("1,2,3;2                                 ", 40);
        dueFault("1,2,3                                  x", 39);
        dueFault("1,2,3                                 ;0", 40);
        dueFault("1,2                                    ,", 40);
    }
}
