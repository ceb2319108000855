/** For tests of single sentences: each is named by the words it stands for, and fails by itself. */
abstract class Sentences extends Given {
    private static String sentence = "no sentence";
    private static int sentences;
    private static int answers;
    private static int answersBefore;
    private static int wrong;

    /** Begins the test of a sentence. */
    static void says(String where, String words) {
        endSentence();
        sentence = where + ": " + words;
        sentences++;
        answersBefore = answers;
    }

    private static void endSentence() {
        if (sentences > 0 && answers == answersBefore) {
            wrong++;
            System.out.println(sentence + ": nothing is asked");
        }
    }

    static void due(String call, long got, long want) {
        answers++;
        if (got != want) {
            wrong++;
            System.out.println(sentence + ": " + call + " answered " + got + ", due is " + want);
        }
    }

    static void dueItems(WholeMarks x, int sheet, int lane, int... items) {
        for (int i = 0; i < items.length; i++) {
            due("item " + i + " of sheet " + sheet + " is " + items[i], isItem(x, sheet, lane, i, items[i]) ? 1 : 0, 1);
        }
    }

    static void dueMost(WholeMarks x, int cloth, int inches, int... row) {
        due("most(" + cloth + ", -1)", x.most(cloth, -1), inches);
        for (int i = 0; i < 8; i++) {
            due("most(" + cloth + ", " + i + ")", x.most(cloth, i), i < row.length ? row[i] : -4);
        }
    }

    static void dueParties(WholeMarks x, int k, long prices, int... row) {
        due("parties(" + k + ", -1)", x.parties(k, -1), prices);
        for (int i = 0; i < 6; i++) {
            due("parties(" + k + ", " + i + ")", x.parties(k, i), i < row.length ? row[i] : -4);
        }
    }

    static void dueRings(WholeMarks x, int many, int first) {
        due("rings(0)", x.rings(0), many);
        due("rings(1)", x.rings(1), first);
    }

    static void dueTurn(WholeMarks x, int coin, int n, long most, int... row) {
        due("turn(" + coin + ", " + n + ", " + row.length + ", -1)", x.turn(coin, n, row.length, -1), most);
        for (int i = 0; i < row.length; i++) {
            due("turn(" + coin + ", " + n + ", " + row.length + ", " + i + ")", x.turn(coin, n, row.length, i), row[i]);
        }
    }

    static void tellAndExit() {
        endSentence();
        System.out.println(sentences + " sentences, " + answers + " answers asked, " + wrong + " wrong");
        if (wrong != 0 || sentences == 0) {
            System.exit(1);
        }
    }
}
