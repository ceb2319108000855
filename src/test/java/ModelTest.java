/** Runs of up to 512 calls, always the same ones, each answer held against that of the model. */
public final class ModelTest {
    private static final int RUNS = 2000;
    private static final int[] CALLS = {60, 120, 200, 512};

    private long seed;
    private int told;
    private int wrong;
    private WholeMarks x;
    private Model model;
    /** How wide measures and lengths are strewn in this run. */
    private int wide;
    private int lengths;

    public static void main(String[] args) {
        ModelTest test = new ModelTest();
        for (int run = 0; run < RUNS && test.wrong < 20; run++) {
            test.run(run);
        }
        test.edges();
        System.out.println(test.told + " answers held against the model, " + test.wrong + " unlike");
        if (test.wrong != 0 || test.told < 1000) {
            System.exit(1);
        }
    }

    private void run(int run) {
        seed = run * 7919L + 17;
        wide = run % 8 == 7 ? 999 : run % 2 == 0 ? 12 : 50;
        lengths = run % 5 == 4 ? 99999 : run % 3 == 0 ? 60 : 600;
        x = new WholeMarks();
        model = new Model();
        for (int s = 0; s < 4 && run % 2 == 1; s++) {
            hold(say("sheet", s, s % 3, 16), x.sheet(s, s % 3, 16), model.sheet(s, s % 3, 16));
        }
        for (int call = 0; call < CALLS[run % CALLS.length]; call++) {
            int kind = pick(40);
            int wrongBefore = wrong;
            call(kind);
            if (wrong != wrongBefore) {
                System.out.println("  in run " + run + ", call " + call);
                return;
            }
        }
    }

    /** Every call with the farthest numbers in every place, and with those near its edges. */
    private void edges() {
        int[] far = {Integer.MIN_VALUE, -1, 0, 1, 2, 16, Integer.MAX_VALUE};
        for (int a : far) {
            for (int b : far) {
                for (int c : far) {
                    afresh();
                    edgesOfThree(a, b, c);
                    for (int d : far) {
                        hold(say("rate", a, b, c, d), x.rate(a, b, c, d), model.rate(a, b, c, d));
                        hold(say("turn", a, b, c, d), x.turn(a, b, c, d), model.turn(a, b, c, d));
                        for (int e : far) {
                            hold(say("fit", a, b, c, d, e), x.fit(a, b, c, d, e), model.fit(a, b, c, d, e));
                            hold(say("copy", a, b, c, d, e), x.copy(a, b, c, d, e), model.copy(a, b, c, d, e));
                        }
                    }
                }
            }
        }
    }

    private void afresh() {
        x = new WholeMarks();
        model = new Model();
        for (int s = 0; s < 3; s++) {
            hold(say("sheet", s, s, 4), x.sheet(s, s, 4), model.sheet(s, s, 4));
            hold(say("bolt", s, 300), x.bolt(s, 300), model.bolt(s, 300));
            hold(say("buyer", 30), x.buyer(30), model.buyer(30));
        }
    }

    private void edgesOfThree(int a, int b, int c) {
        hold(say("told", a, b), x.told(a, b), model.told(a, b));
        hold(say("most", a, b), x.most(a, b), model.most(a, b));
        hold(say("parties", a, b), x.parties(a, b), model.parties(a, b));
        hold(say("film", a, b, c), x.film(a, b, c), model.film(a, b, c));
        hold(say("leaves", a, b, c), x.leaves(a, b, c), model.leaves(a, b, c));
        hold(say("item", a, b, c, Long.MIN_VALUE), x.item(a, b, c, Long.MIN_VALUE), model.item(a, b, c, Long.MIN_VALUE));
        hold(say("cut", a, b), x.cut(a, b), model.cut(a, b));
        hold(say("join", a, b), x.join(a, b), model.join(a, b));
        hold(say("bolt", a, b), x.bolt(a, b), model.bolt(a, b));
        hold(say("type", a, b), x.type(a, b), model.type(a, b));
        hold(say("worn", a), x.worn(a), model.worn(a));
        hold(say("third", a), x.third(a), model.third(a));
        hold(say("rings", a), x.rings(a), model.rings(a));
        hold(say("count", a), x.count(a), model.count(a));
        hold(say("price", a), x.price(a), model.price(a));
        hold(say("buyer", a), x.buyer(a), model.buyer(a));
        hold(say("seam", a), x.seam(a), model.seam(a));
        hold(say("measure", a, b), x.measure(a, b), model.measure(a, b));
        hold(say("rule", a, b), x.rule(a, b), model.rule(a, b));
        hold(say("drop", a), x.drop(a), model.drop(a));
        hold(say("sheet", a, b, c), x.sheet(a, b, c), model.sheet(a, b, c));
    }

    // ---- always the same strewn numbers

    private int pick(int below) {
        seed = seed * 6364136223846793005L + 1442695040888963407L;
        return (int) ((seed >>> 33) % below);
    }

    private int from(int least, int most) {
        return least + pick(most - least + 1);
    }

    /** Mostly a number as told, at times one of its edges or a wrong one. */
    private int near(int least, int most) {
        switch (pick(24)) {
            case 0: return least - 1;
            case 1: return most + 1;
            case 2: return least;
            case 3: return most;
            case 4: return pick(6) > 0 ? from(least, most) : pick(2) == 0 ? Integer.MIN_VALUE : Integer.MAX_VALUE;
            default: return from(least, most);
        }
    }

    private void hold(String call, long got, long due) {
        told++;
        if (got != due) {
            wrong++;
            System.out.println(call + " answered " + got + ", the model " + due);
        }
    }

    private static String say(String name, long... arguments) {
        String all = java.util.Arrays.toString(arguments);
        return name + "(" + all.substring(1, all.length() - 1) + ")";
    }

    // ---- the calls

    private void call(int kind) {
        if (kind < 12) {
            callTowns(kind);
        } else if (kind < 18) {
            callBolts(kind);
        } else if (kind < 30) {
            callBuyersAndCoins(kind);
        } else {
            callSheets(kind);
        }
    }

    private void callTowns(int kind) {
        switch (kind) {
            case 0: case 1: measure(); break;
            case 2: rule(); break;
            case 3: seam(); break;
            case 4: place(); break;
            case 5: case 6: places(); break;
            case 7: case 8: type(); break;
            case 9: towns(); break;
            default:
                int what = near(0, 5);
                hold(say("count", what), x.count(what), model.count(what));
        }
    }

    private void measure() {
        int town = near(0, 2);
        int v = pick(10) == 0 ? near(1, 999) : from(1, wide);
        hold(say("measure", town, v), x.measure(town, v), model.measure(town, v));
    }

    private void rule() {
        int set = pick(4) == 0 ? near(0, 8) : new int[] {3, 5, 6, 7}[pick(4)];
        int law = near(0, 1);
        hold(say("rule", set, law), x.rule(set, law), model.rule(set, law));
    }

    private void seam() {
        int v = pick(3) == 0 ? near(0, 99) : pick(5);
        hold(say("seam", v), x.seam(v), model.seam(v));
    }

    private void place() {
        int i = pick(3) == 0 ? near(1, 999999) : from(1, 60);
        long due = model.place(i);
        long got = x.place(i);
        if (due != Model.UNTOLD) {
            hold(say("place", i), got, due);
            return;
        }
        hold(say("places up to place", i), x.places(got), i);
        hold(say("places ahead of place", i), x.places(got - 1), i - 1);
    }

    private void places() {
        long[] lengths = {pick(1000), pick(20000), 1000000000000000L, 1000000000000001L, -1 - pick(3),
            (long) pick(1000000000) * 999983};
        long length = lengths[pick(lengths.length)];
        long due = model.places(length);
        long got = x.places(length);
        if (due != Model.UNTOLD) {
            hold(say("places", length), got, due);
        } else if (got > 0 && got <= 999999) {
            hold(say("place no more than", length), x.place((int) got) <= length ? 1 : 0, 1);
        }
    }

    private void type() {
        String[] parts = {"1", "12,", "7,8", ",9", "10,6,15", "  ", " ", ";", ";01", ";12", ";210", "2", "t", "0", "36,30,45",
            "5,6,7t", "9,4,6;02", "9,4,6", "1000", ",", "007", "x", "\u001f", "~", ";0", "3,4,5;01"};
        String part = parts[pick(parts.length)];
        long w = pick(1 << 20);
        for (int i = 0; i < part.length(); i++) {
            w = w << 8 | part.charAt(i);
        }
        int n = pick(20) == 0 ? near(1, 8) : part.length();
        hold(say("type", w, n), x.type(w, n), model.type(w, n));
    }

    private void towns() {
        if (pick(4) > 0) {
            type();
        }
        hold("towns()", x.towns(), model.towns());
    }

    private void callBolts(int kind) {
        int bolt = near(0, 7);
        int other = near(0, 7);
        switch (kind) {
            case 12: case 13:
                int cloth = pick(3) > 0 ? (int) ((seed >>> 60) & 1) * 2 : near(0, 3);
                int length = pick(8) == 0 ? near(1, 99999) : from(1, lengths);
                hold(say("bolt", cloth, length), x.bolt(cloth, length), model.bolt(cloth, length));
                break;
            case 14:
                int what = near(0, 2);
                hold(say("told", bolt, what), x.told(bolt, what), model.told(bolt, what));
                break;
            case 15:
                cut(bolt);
                break;
            case 16:
                hold(say("join", bolt, other), x.join(bolt, other), model.join(bolt, other));
                break;
            default:
                int i = pick(4) == 0 ? near(-1, 7) : from(-1, 3);
                int of = near(0, 3);
                hold(say("most", of, i), x.most(of, i), model.most(of, i));
        }
    }

    private void cut(int bolt) {
        int most = (int) Math.max(0, model.told(bolt, 2));
        int length = pick(3) > 0 ? most : (int) Math.min(99999, Math.max(0, model.place(1))) * pick(4) + pick(2);
        hold(say("cut", bolt, length), x.cut(bolt, length), model.cut(bolt, length));
    }

    private void callBuyersAndCoins(int kind) {
        int what = near(0, 1);
        switch (kind) {
            case 18: case 19:
                int wants = pick(6) == 0 ? near(1, 9999) : from(1, 200);
                hold(say("buyer", wants), x.buyer(wants), model.buyer(wants));
                break;
            case 20:
                if (pick(4) == 0) {
                    hold("home()", x.home(), model.home());
                }
                break;
            case 21:
                int set = near(1, 63);
                hold(say("price", set), x.price(set), model.price(set));
                break;
            case 22: case 23:
                int k = near(1, 6);
                int i = near(-1, 5);
                hold(say("parties", k, i), x.parties(k, i), model.parties(k, i));
                break;
            case 24:
                hold(say("third", what), x.third(what), model.third(what));
                break;
            case 25:
                int s = near(0, 9);
                hold(say("worn", s), x.worn(s), model.worn(s));
                break;
            case 26: rate(); rate(); break;
            case 27:
                hold(say("rings", what), x.rings(what), model.rings(what));
                break;
            case 28: turn(); break;
            default:
                boolean image = pick(3) == 0;
                hold(image ? "image()" : "restore()", image ? x.image() : x.restore(), image ? model.image() : model.restore());
        }
    }

    private void rate() {
        int from = near(0, 3);
        int to = near(0, 3);
        int above = pick(3) == 0 ? near(1, 99) : from(1, 6);
        int below = pick(3) == 0 ? near(1, 99) : from(1, 6);
        hold(say("rate", from, to, above, below), x.rate(from, to, above, below), model.rate(from, to, above, below));
    }

    private void turn() {
        int coin = near(0, 3);
        int n = pick(2) == 0 ? near(0, 999999) : from(0, 30);
        int k = near(1, 5);
        int i = near(-1, 4);
        hold(say("turn", coin, n, k, i), x.turn(coin, n, k, i), model.turn(coin, n, k, i));
    }

    private void callSheets(int kind) {
        int sheet = near(0, 3);
        int lane = pick(5) == 0 ? near(0, 2) : sheet % 3;
        int i = near(0, 15);
        switch (kind) {
            case 30:
                int items = pick(3) == 0 ? near(0, 16) : 16;
                hold(say("sheet", sheet, lane, items), x.sheet(sheet, lane, items), model.sheet(sheet, lane, items));
                break;
            case 31:
                if (pick(5) == 0) {
                    hold(say("drop", sheet), x.drop(sheet), model.drop(sheet));
                }
                break;
            case 32: case 33: case 34: shares(sheet, lane); break;
            case 35:
                hold(say("film", sheet, lane, i % 4), x.film(sheet, lane, i % 4), model.film(sheet, lane, i % 4));
                break;
            case 36: case 37: copy(sheet); break;
            case 38: fit(sheet, lane, i); break;
            default:
                hold(say("leaves", sheet, lane, i), x.leaves(sheet, lane, i), model.leaves(sheet, lane, i));
        }
    }

    private void shares(int sheet, int lane) {
        for (int times = 0; times < 4; times++) {
            int i = times == 3 ? near(0, 15) : pick(8);
            long[] values = {pick(400), 60 * pick(30), 12 * from(1, 9999), pick(400), (long) pick(1 << 30) << pick(34), -pick(3),
                999998 + pick(4), 9999998 + pick(4), 360 * from(1, 100)};
            long v = values[pick(4) > 0 ? pick(2) : pick(values.length)];
            hold(say("item", sheet, lane, i, v), x.item(sheet, lane, i, v), model.item(sheet, lane, i, v));
        }
        int from = pick(4);
        hold(say("leaves", sheet, lane, from), x.leaves(sheet, lane, from), model.leaves(sheet, lane, from));
    }

    private void copy(int from) {
        int to = near(0, 3);
        int i = near(0, 12);
        int j = near(0, 12);
        int n = near(0, 9);
        hold(say("copy", from, i, to, j, n), x.copy(from, i, to, j, n), model.copy(from, i, to, j, n));
    }

    private void fit(int sheet, int lane, int i) {
        int n = pick(2) == 0 ? near(1, 8) : from(1, 3);
        int what = near(0, 1);
        hold(say("fit", sheet, lane, i, n, what), x.fit(sheet, lane, i, n, what), model.fit(sheet, lane, i, n, what));
    }
}
