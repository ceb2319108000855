/** For tests of single sentences: each is named by the words it stands for, and fails by itself. */
abstract class Sentences extends Given {
    private static String sentence = "no sentence";
    private static int sentences;
    private static int answers;
    private static int answersBefore;
    private static int wrong;

    /** Begins the test of a sentence. */
    static void says(String where, String words) {
        endSentence();
        sentence = where + ": " + words;
        sentences++;
        answersBefore = answers;
    }

    private static void endSentence() {
        if (sentences > 0 && answers == answersBefore) {
            wrong++;
            System.out.println(sentence + ": nothing is asked");
        }
    }

    static void due(String call, long got, long want) {
        answers++;
        if (got != want) {
            wrong++;
            System.out.println(sentence + ": " + call + " answered " + got + ", due is " + want);
        }
    }

    static void dueItems(WholeMarks x, int sheet, int lane, int... items) {
        for (int i = 0; i < items.length; i++) {
            due("item " + i + " of sheet " + sheet + " is " + items[i], isItem(x, sheet, lane, i, items[i]) ? 1 : 0, 1);
        }
    }

    static void dueMost(WholeMarks x, int cloth, int inches, int... row) {
        due("most(" + cloth + ", -1)", x.most(cloth, -1), inches);
        for (int i = 0; i < 8; i++) {
            due("most(" + cloth + ", " + i + ")", x.most(cloth, i), i < row.length ? row[i] : -4);
        }
    }

    static void dueParties(WholeMarks x, int k, long prices, int... row) {
        due("parties(" + k + ", -1)", x.parties(k, -1), prices);
        for (int i = 0; i < 6; i++) {
            due("parties(" + k + ", " + i + ")", x.parties(k, i), i < row.length ? row[i] : -4);
        }
    }

    static void dueRings(WholeMarks x, int many, int first) {
        due("rings(0)", x.rings(0), many);
        due("rings(1)", x.rings(1), first);
    }

    static void dueTurn(WholeMarks x, int coin, int n, long most, int... row) {
        due("turn(" + coin + ", " + n + ", " + row.length + ", -1)", x.turn(coin, n, row.length, -1), most);
        for (int i = 0; i < row.length; i++) {
            due("turn(" + coin + ", " + n + ", " + row.length + ", " + i + ")", x.turn(coin, n, row.length, i), row[i]);
        }
    }

    static void dueTowns(String text, int counting, int a, int b, int c, int rule) {
        WholeMarks x = withMeasures(11, 12, 13, 6, 1);
        due("towns() of '" + text + "'", read(x, text), counting);
        due("measure 0 by '" + text + "'", x.measure(0, 1), a);
        due("measure 1 by '" + text + "'", x.measure(1, 1), b);
        due("measure 2 by '" + text + "'", x.measure(2, 1), c);
        due("rule by '" + text + "'", x.rule(3, 0), rule);
        due("the tape behind '" + text + "'", x.type(65, 1), 1);
    }

    static void dueFault(String text, int place) {
        WholeMarks x = withMeasures(11, 12, 13, 6, 1);
        due("towns() of '" + text + "'", read(x, text), -20 - place);
        due("measure 0 behind '" + text + "'", x.measure(0, 1), 11);
        due("measure 1 behind '" + text + "'", x.measure(1, 1), 12);
        due("measure 2 behind '" + text + "'", x.measure(2, 1), 13);
        due("rule behind '" + text + "'", x.rule(3, 0), 61);
        due("the tape behind '" + text + "'", x.type(65, 1), 1);
    }

    static void dueAllOfIt(WholeMarks x) {
        due("count(0)", x.count(0), 2);
        due("count(1)", x.count(1), 129);
        due("count(2)", x.count(2), 60);
        due("count(3)", x.count(3), 2);
        due("count(4)", x.count(4), 101);
        due("told(0, 0)", x.told(0, 0), 1);
        due("told(0, 1)", x.told(0, 1), 39);
        due("told(1, 0)", x.told(1, 0), 2);
        due("told(1, 1)", x.told(1, 1), 90);
        due("price(1)", x.price(1), 60);
        due("rate(0, 1, 3, 2)", x.rate(0, 1, 3, 2), 302);
        due("rate(3, 2, 1, 1)", x.rate(3, 2, 1, 1), 101);
        due("seam(5)", x.seam(5), 5);
        due("rule(7, 1)", x.rule(7, 1), 71);
        due("measure(0, 20)", x.measure(0, 20), 20);
        due("measure(1, 15)", x.measure(1, 15), 15);
        due("measure(2, 12)", x.measure(2, 12), 12);
    }

    static void tellAndExit() {
        endSentence();
        System.out.println(sentences + " sentences, " + answers + " answers asked, " + wrong + " wrong");
        if (wrong != 0 || sentences == 0) {
            System.exit(1);
        }
    }
}
