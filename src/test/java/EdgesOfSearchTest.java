/** Terms III, V and VI and promises 33 to 39, sentence by sentence: the first, the last and none. */
public final class EdgesOfSearchTest {
    private static final Due DUE = new Due();
    private static final String ONE_BIT = "table base 2 long 1;";
    private static final String GREAT = "table base 10 long 4;";
    private static final String FIGURE = "table base 10 long 1;";

    public static void main(String[] args) {
        slipBounds();
        slipWordAndNumber();
        slipAtOneWord();
        slipAndKeep();
        fits();
        fitsAll();
        which();
        find();
        findRows();
        found();
        best();
        bestOfTables();
        bestLeavesAll();
        draws();
        evening();
        eveningBounds();
        DUE.end("EdgesOfSearchTest");
    }

    /** The sixth slip at the twelfth word. */
    private static UpAndDown last() {
        return Due.of(GREAT + "doing" + " plus 0".repeat(11) + " plus 1;" + "slip up for out 1;".repeat(5)
                + "slip plus 2 for plus 1;");
    }

    private static void slipBounds() {
        UpAndDown x = last();
        DUE.is("33: slip 5 at word 11", x.slip(9999, 11, 5), 1);
        DUE.is("33: word 12", x.slip(9999, 12, 5), -2);
        DUE.is("33: word -1", x.slip(9999, -1, 5), -2);
        DUE.is("33: slip 6", x.slip(9999, 11, 6), -2);
        DUE.is("33: slip -1", x.slip(9999, 11, -1), -2);
        DUE.is("III: none such at word 10", x.slip(9999, 10, 5), -2);
        DUE.is("III: none such, slip 4", x.slip(9999, 11, 4), -2);
        DUE.is("33: of one more", x.slip(10000, 11, 5), -2);
        DUE.is("33: of one less than 0", x.slip(-1, 11, 5), -2);
        DUE.is("33: of the least", x.slip(0, 11, 5), 2);
        UpAndDown y = Due.of(GREAT + "doing plus 1;");
        DUE.is("33: no slips", y.slip(0, 0, 0), -2);
        UpAndDown z = Due.of(GREAT + "slip plus 1 for plus 2;");
        DUE.is("33: no words", z.slip(0, 0, 0), -2);
        UpAndDown down = Due.of(GREAT + "doing down;slip up for down;slip turn for up;");
        DUE.is("33: down at word 0", down.slip(10, 0, 0), 1);
        int[] beyond = {-1, 2, 3, 5, 6, 7, 11, 12, 13, 59, 60};
        for (int i : beyond) {
            DUE.is("33: no slip " + i + " for down", down.slip(10, 0, i), -2);
            DUE.is("33: no word " + i + " that is down", down.slip(10, i == 2 ? 1 : i, 0), -2);
        }
        DUE.is("34: no others for down", down.fits(10, 1), 1);
        DUE.is("34: no others for down", down.fits(10, 1000), 0);
        DUE.is("35: no others for down", down.which(10, 1000), -1);
    }

    /** The word of the doing is the second of a slip, its number, too. */
    private static void slipWordAndNumber() {
        UpAndDown x = Due.of(GREAT + "doing times 7 plus 7 down;slip up for times 7;slip up for times 8;"
                + "slip up for plus 0;slip turn for down;slip down for turn;slip turn for up;");
        DUE.is("III: sort and number", x.slip(3524, 0, 0), 5322);
        DUE.is("III: another number", x.slip(3524, 0, 1), -2);
        DUE.is("III: another sort, its number", x.slip(3524, 1, 0), -2);
        DUE.is("III: another number of 0", x.slip(3524, 1, 2), -2);
        DUE.is("III: a sort without a number", x.slip(1, 2, 3), 4100);
        DUE.is("III: it is the first of a slip", x.slip(1, 2, 4), -2);
        DUE.is("III: neither", x.slip(1, 2, 5), -2);
        UpAndDown y = Due.of(GREAT + "doing down;slip up for plus 0;slip up for times 0;slip up for out 0;");
        for (int slip = 0; slip < 3; slip++) {
            DUE.is("III: 0 of another sort", y.slip(1, 0, slip), -2);
        }
    }

    private static void slipAtOneWord() {
        UpAndDown x = Due.of(GREAT + "doing plus 1 times 2 plus 1;slip plus 3 for plus 1;");
        DUE.is("III: at the first alone", x.slip(0, 0, 0), 7);
        DUE.is("III: not at the second", x.slip(0, 1, 0), -2);
        DUE.is("III: at the third alone", x.slip(0, 2, 0), 5);
        DUE.is("III: the doing stays", x.next(0), 3);
        DUE.is("III: the doing stays", x.word(0, 1), 1);
    }

    private static void slipAndKeep() {
        UpAndDown x = Due.of(GREAT + "doing plus 1 keep plus 1 back;slip plus 5 for keep;slip keep for plus 1;");
        DUE.is("III: nothing is kept", x.slip(10, 1, 0), 10);
        DUE.is("III: kept a word sooner, and again", x.slip(10, 0, 1), 10);
        DUE.is("III: kept a word later", x.slip(10, 2, 1), 11);
    }

    private static void fits() {
        UpAndDown x = last();
        DUE.is("34: one", x.fits(9999, 1), 1);
        DUE.is("34: none, though it is the next", x.fits(9999, 0), 0);
        DUE.is("34: of one more", x.fits(10000, 0), -2);
        DUE.is("34: to one more", x.fits(0, 10000), -2);
        DUE.is("34: of one less than 0", x.fits(-1, 0), -2);
        DUE.is("34: to one less than 0", x.fits(0, -1), -2);
        UpAndDown y = Due.of(GREAT + "doing plus 1;slip plus 1 for plus 1;");
        DUE.is("34: a slip to the same word", y.fits(0, 1), 1);
        DUE.is("35: a slip to the same word", y.which(0, 1), 0);
        DUE.is("34: no slips", Due.of(GREAT + "doing plus 1;").fits(0, 1), 0);
        DUE.is("34: no words", Due.of(GREAT + "slip up for down;").fits(0, 0), 0);
        DUE.is("35: no slips", Due.of(GREAT + "doing plus 1;").which(0, 1), -1);
        DUE.is("35: no words", Due.of(GREAT + "slip up for down;").which(0, 0), -1);
    }

    private static void fitsAll() {
        UpAndDown x = Due.of(GREAT + "doing" + " plus 0".repeat(12) + ";" + "slip times 1 for plus 0;".repeat(6));
        DUE.is("34: all of them", x.fits(7, 7), 72);
        DUE.is("35: the first of all", x.which(7, 7), 0);
        DUE.is("34: none", x.fits(7, 8), 0);
        DUE.is("35: none", x.which(7, 8), -1);
    }

    private static void which() {
        DUE.is("35: the last there can be", last().which(9999, 1), 115);
        DUE.is("35: none", last().which(9999, 2), -1);
        DUE.is("35: of one more", last().which(10000, 0), -2);
        DUE.is("35: to one more", last().which(0, 10000), -2);
        DUE.is("35: of one less than 0", last().which(-1, 0), -2);
        DUE.is("35: to one less than 0", last().which(0, -1), -2);
        UpAndDown x = Due.of(GREAT + "doing plus 1 plus 2;slip plus 5 for plus 2;slip plus 4 for plus 1;"
                + "slip plus 4 for plus 1;");
        DUE.is("34: three of them", x.fits(0, 6), 3);
        DUE.is("35: the word tells ahead of the slip", x.which(0, 6), 1);
    }

    private static void find() {
        UpAndDown x = Due.of(GREAT + "doing plus 1;");
        DUE.is("36: no words", x.find(0, 0), 0);
        DUE.is("36: no words", x.find(9999, 9999), 0);
        DUE.is("36: one word", x.find(12, 3), 1);
        DUE.is("36: two words", x.find(1, 3), 2);
        DUE.is("36: words of sorts with a number are none of them", x.find(0, 1), -1);
        DUE.is("36: of one more", x.find(10000, 0), -2);
        DUE.is("36: to one more", x.find(0, 10000), -2);
        DUE.is("36: of one less than 0", x.find(-1, 0), -2);
        DUE.is("36: to one less than 0", x.find(0, -1), -2);
        UpAndDown y = Due.of("table base 10 long 2;");
        DUE.is("36: three words", y.find(1, 16), 3);
        DUE.is("36: three do not", y.find(1, 17), -1);
        UpAndDown z = Due.of(ONE_BIT);
        DUE.is("36: less", z.find(1, 0), 1);
        DUE.is("36: never", z.find(0, 1), -1);
    }

    private static void row(UpAndDown x, int from, int to, int... due) {
        DUE.is("36: find " + from + " " + to, x.find(from, to), due.length);
        for (int i = 0; i < due.length; i++) {
            DUE.is("37: found " + from + " " + to + ", word " + i, x.found(from, to, i), due[i]);
        }
        DUE.is("37: not so many", x.found(from, to, due.length), -1);
        DUE.is("37: below", x.found(from, to, -1), -1);
    }

    /** Of rows of as many words, the least sorts from the first on. */
    private static void findRows() {
        UpAndDown x = Due.of(GREAT);
        row(x, 7, 7);
        row(x, 12, 2100, 0);
        row(x, 10, 1, 1);
        row(x, 12, 0, 5);
        row(x, 12, 24, 6);
        row(x, 12, 5, 7);
        row(x, 12, 9, 8);
        row(x, 12, 3, 9);
        row(x, 12, 6, 10);
        row(x, 123, 1230, 11);
        row(x, 1020, 201, 2);
        row(x, 3524, 1908, 0, 5);
        row(x, 1, 3, 6, 6);
        row(Due.of("table base 10 long 2;"), 1, 16, 6, 7, 7);
        row(Due.of("table base 16 long 1;"), 15, 14, 6);
    }

    private static void found() {
        UpAndDown x = Due.of(GREAT);
        DUE.is("37: of no row", x.found(0, 1, 0), -1);
        DUE.is("37: of no row, below", x.found(0, 1, -1), -1);
        DUE.is("37: of one more", x.found(10000, 0, 0), -2);
        DUE.is("37: to one more", x.found(0, 10000, 0), -2);
        DUE.is("37: of one less than 0", x.found(-1, 0, 0), -2);
        DUE.is("37: to one less than 0", x.found(0, -1, 0), -2);
        DUE.is("37: of one more, not so many", x.found(10000, 0, -1), -2);
    }

    private static void bests(UpAndDown x, int n, int... due) {
        for (int what = 0; what < 3; what++) {
            DUE.is("38: best of " + n + ", what " + what, x.best(n, what), due[what]);
        }
        DUE.is("38: what 3", x.best(n, 3), -2);
        DUE.is("38: what -1", x.best(n, -1), -2);
    }

    private static void best() {
        UpAndDown x = Due.of(ONE_BIT);
        bests(x, 1, 0, 0, 5);
        bests(x, 2, 0, 0, 5);
        DUE.is("38: of none", x.best(0, 0), -2);
        DUE.is("38: of three", x.best(3, 0), -2);
        DUE.is("38: of -1", x.best(-1, 0), -2);
        // Two bits: only turn and first change 01 and 10; keep lets all four rest; add goes 1, 2, 0.
        bests(Due.of("table base 2 long 2;"), 1, 2, 3, 6);
        // One figure of ten: add rounds 2 4 8 6, all that stay rest, and half goes 8 4 2 1.
        bests(Due.of(FIGURE), 1, 6, 0, 10);
        bests(Due.of(FIGURE), 2, 1006, 0, 1005);
    }

    /** What is best of a table is told for that one alone, be its base, its long or both as they were. */
    private static void bestOfTables() {
        UpAndDown x = Due.of(FIGURE);
        bests(x, 1, 6, 0, 10);
        bests(x, 2, 1006, 0, 1005);
        Due.table(x, ONE_BIT);
        bests(x, 1, 0, 0, 5);
        bests(x, 2, 0, 0, 5);
        Due.table(x, "table base 2 long 2;");
        bests(x, 1, 2, 3, 6);
        Due.table(x, "table base 10 long 2;");
        DUE.is("38: another base: keep", x.best(1, 1), 3);
        DUE.is("38: another base: cube", x.best(1, 2), 8);
        Due.table(x, FIGURE + "doing plus 1;");
        bests(x, 1, 6, 0, 10);
        bests(x, 2, 1006, 0, 1005);
    }

    private static void bestLeavesAll() {
        UpAndDown x = Due.of("table base 10 long 2;doing plus 1;number 98;");
        DUE.is("30: ahead of best", x.left(3, 3), 1);
        DUE.is("38: best", x.best(2, 1), 4);
        DUE.is("14: behind best", x.rounds(2), 100);
        DUE.is("28: behind best", x.sure(3, 3, 1), 1);
        DUE.is("38: best again", x.best(2, 1), 4);
        DUE.is("7: a turn", x.turn(0, 12, 0), 1);
        DUE.is("38: of all doings, whatever the table's", x.best(2, 1), 4);
        DUE.is("13: behind best", x.ends(98, 2), 0);
    }

    /** All rest: evening tells how many of the numbers drawn are unlike, and how many are the first. */
    private static void draws() {
        UpAndDown x = Due.of(FIGURE);
        // Of seed 1: 16838 5758 10113 17515 31051 5627 23010 7419 16212 4086.
        int[] unlike = {1, 1, 2, 3, 4, 5, 6, 7, 8, 9};
        int[] first = {1, 2, 2, 2, 2, 2, 2, 2, 2, 2};
        for (int n = 1; n <= 10; n++) {
            DUE.is("VI: unlike of " + n, x.evening(1, n, 0), unlike[n - 1]);
            DUE.is("VI: like the first of " + n, x.evening(1, n, 2), first[n - 1]);
            DUE.is("VI: goes of " + n, x.evening(1, n, 1), 0);
        }
    }

    private static void evening() {
        UpAndDown x = Due.of(GREAT + "doing half;");
        // Of seed 1, cut to four figures: 6838 5758 113 7515 1051 5627 3010 7419 6212 4086.
        int[] most = {1, 1, 1, 1, 1, 1, 1, 1, 2, 2};
        for (int n = 1; n <= 10; n++) {
            DUE.is("39: to how many unlike rounds", x.evening(1, n, 0), n);
            DUE.is("39: the most goes of one", x.evening(1, n, 1), most[n - 1]);
            DUE.is("39: how many come to the round of the first", x.evening(1, n, 2), 1);
        }
        DUE.is("39: of the greatest seed, 3304", x.evening(2000000000, 1, 1), 3);
        DUE.is("39: of one less, 9233", x.evening(1999999999, 1, 1), 0);
        DUE.is("39: a hundred", x.evening(0, 100, 0), 98);
        DUE.is("39: a hundred, the most goes", x.evening(1999999999, 100, 1), 11);
        UpAndDown y = Due.of(GREAT + "doing times 0;");
        DUE.is("39: all to one round", y.evening(1, 100, 0), 1);
        DUE.is("39: all to one round", y.evening(1, 100, 2), 100);
        DUE.is("39: 0 drawn goes none", y.evening(0, 1, 1), 0);
        DUE.is("39: another goes one", y.evening(0, 2, 1), 1);
    }

    private static void eveningBounds() {
        UpAndDown x = Due.of(GREAT);
        DUE.is("39: n 0", x.evening(0, 0, 0), -2);
        DUE.is("39: n 1", x.evening(0, 1, 0), 1);
        DUE.is("39: n 99", x.evening(0, 99, 0), 99);
        DUE.is("39: n 100", x.evening(0, 100, 0), 100);
        DUE.is("39: n 101", x.evening(0, 101, 0), -2);
        DUE.is("39: seed -1", x.evening(-1, 1, 0), -2);
        DUE.is("39: seed 0", x.evening(0, 1, 2), 1);
        DUE.is("39: seed 2,000,000,000", x.evening(2000000000, 100, 0), 100);
        DUE.is("39: seed 2,000,000,001", x.evening(2000000001, 1, 0), -2);
        DUE.is("39: what -1", x.evening(0, 1, -1), -2);
        DUE.is("39: what 3", x.evening(0, 1, 3), -2);
        UpAndDown y = Due.of(FIGURE);
        DUE.is("39: the greatest seed, like the first", y.evening(2000000000, 100, 2), 13);
        DUE.is("39: the least seed, like the first", y.evening(0, 100, 2), 11);
        UpAndDown z = Due.of(ONE_BIT);
        DUE.is("39: of two numbers", z.evening(0, 100, 0), 2);
        DUE.is("39: of two numbers", z.evening(0, 100, 2), 52);
    }
}
