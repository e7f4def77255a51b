/** Promises 33 to 39: slips, rows found, the best doings, and evenings. */
public final class SearchTest {
    private static final Due DUE = new Due();
    private static final String HEAD = "table base 10 long 4;";

    public static void main(String[] args) {
        slip();
        slipNumbers();
        fits();
        find();
        best();
        evening();
        noTable();
        DUE.end("SearchTest");
    }

    private static void slip() {
        UpAndDown x = Due.of(HEAD + "doing down keep up less;slip add for less;slip down for up;slip up for down;");
        DUE.is("add for less", x.slip(3524, 3, 0), 7777);
        DUE.is("not at down", x.slip(3524, 0, 0), -2);
        DUE.is("down for up", x.slip(3524, 2, 1), 0);
        DUE.is("up for down", x.slip(3524, 0, 2), 0);
        DUE.is("word 4", x.slip(3524, 4, 0), -2);
        DUE.is("word -1", x.slip(3524, -1, 0), -2);
        DUE.is("slip 3", x.slip(3524, 3, 3), -2);
        DUE.is("slip -1", x.slip(3524, 3, -1), -2);
        DUE.is("of none", x.slip(10000, 3, 0), -2);
        DUE.is("of none", x.slip(-1, 3, 0), -2);
        DUE.is("the doing stays", x.next(3524), 3087);
        DUE.is("turn", x.turn(3, 6, 0), 1);
        DUE.is("none such now", x.slip(3524, 3, 0), -2);
        UpAndDown none = Due.of(HEAD + "doing down;");
        DUE.is("no slips", none.slip(3524, 0, 0), -2);
        DUE.is("no slips", none.fits(3524, 5432), 0);
        UpAndDown one = Due.of(HEAD + "doing up;slip turn for down;");
        DUE.is("no word behind the last", one.slip(3524, 1, 0), -2);
        DUE.is("no word behind the last", one.fits(3524, 2345), 0);
        DUE.is("no word behind the last", one.which(3524, 2345), -1);
    }

    private static void slipNumbers() {
        UpAndDown x = Due.of(HEAD + "doing plus 3 plus 4 plus 3;slip plus 7 for plus 3;slip keep for plus 4;");
        DUE.is("at word 0", x.slip(0, 0, 0), 14);
        DUE.is("its number, too", x.slip(0, 1, 0), -2);
        DUE.is("at word 2", x.slip(0, 2, 0), 14);
        DUE.is("at word 1", x.slip(0, 1, 1), 6);
        DUE.is("fits", x.fits(0, 14), 2);
        DUE.is("which", x.which(0, 14), 0);
        DUE.is("fits", x.fits(0, 6), 1);
        DUE.is("which", x.which(0, 6), 11);
        DUE.is("fits", x.fits(0, 10), 0);
        DUE.is("which", x.which(0, 10), -1);
        UpAndDown y = Due.of(HEAD + "doing plus 3 keep back;slip plus 4 for keep;");
        DUE.is("what was not kept", y.slip(5, 1, 0), 5);
    }

    private static void fits() {
        UpAndDown x = Due.of(HEAD + "doing down keep up less;slip add for less;slip keep for keep;");
        DUE.is("fits", x.fits(3524, 7777), 1);
        DUE.is("which", x.which(3524, 7777), 30);
        DUE.is("fits", x.fits(3524, 3087), 1);
        DUE.is("which", x.which(3524, 3087), 11);
        DUE.is("fits", x.fits(3524, 1), 0);
        DUE.is("which", x.which(3524, 1), -1);
        DUE.is("of none", x.fits(10000, 1), -2);
        DUE.is("of none", x.fits(1, 10000), -2);
        DUE.is("of none", x.which(-1, 1), -2);
        DUE.is("of none", x.which(1, -1), -2);
        UpAndDown y = Due.of(HEAD + "doing up up;slip turn for up;slip turn for up;");
        DUE.is("each word and slip", y.fits(1221, 1221), 0);
        DUE.is("each word and slip", y.fits(3, 3), 2);
        DUE.is("the first of them", y.which(3, 3), 0);
        DUE.is("each word and slip", y.fits(3, 3000), 2);
        DUE.is("the first of them", y.which(3, 3000), 10);
    }

    private static void find() {
        UpAndDown x = Due.of(HEAD + "doing times 7;");
        int[][] due = {{5, 5, 0, -1}, {3524, 5432, 1, 0}, {3524, 4253, 1, 2}, {2, 4, 1, 6}, {3524, 0, 1, 5}};
        for (int[] row : due) {
            DUE.is("find " + row[0], x.find(row[0], row[1]), row[2]);
            DUE.is("found " + row[0], x.found(row[0], row[1], 0), row[3]);
        }
        // 5432 taken from 3524 is 1908: down, less.
        DUE.is("two words", x.find(3524, 1908), 2);
        DUE.is("two words", x.found(3524, 1908, 0), 0);
        DUE.is("two words", x.found(3524, 1908, 1), 5);
        DUE.is("two words", x.found(3524, 1908, 2), -1);
        DUE.is("two words", x.found(3524, 1908, -1), -1);
        // 1 and 1, and what is kept, 1, once more.
        DUE.is("add twice", x.find(1, 3), 2);
        DUE.is("add twice", x.found(1, 3, 0), 6);
        DUE.is("add twice", x.found(1, 3, 1), 6);
        DUE.is("three do not", x.find(0, 1), -1);
        DUE.is("three do not", x.found(0, 1, 0), -1);
        UpAndDown y = Due.of("table base 10 long 2;");
        DUE.is("add square square", y.find(1, 16), 3);
        DUE.is("add square square", y.found(1, 16, 0), 6);
        DUE.is("add square square", y.found(1, 16, 1), 7);
        DUE.is("add square square", y.found(1, 16, 2), 7);
        DUE.is("add square square", y.found(1, 16, 3), -1);
        DUE.is("add square square add are four", y.find(1, 17), -1);
        DUE.is("add square square add are four", y.found(1, 17, 0), -1);
        DUE.is("of none", x.find(10000, 0), -2);
        DUE.is("of none", x.find(0, -1), -2);
        DUE.is("of none", x.found(10000, 0, 0), -2);
        DUE.is("of none", x.found(0, 10000, 0), -2);
    }

    private static void best() {
        UpAndDown x = Due.of("table base 10 long 1;doing plus 3;");
        DUE.is("longest round: add", x.best(1, 0), 6);
        DUE.is("most rounds: down", x.best(1, 1), 0);
        DUE.is("most goes: half", x.best(1, 2), 10);
        DUE.is("most rounds: down down", x.best(2, 1), 0);
        DUE.is("no doing of none", x.best(0, 0), -2);
        DUE.is("no doing of three", x.best(3, 0), -2);
        DUE.is("another what", x.best(1, 3), -2);
        DUE.is("another what", x.best(1, -1), -2);
        DUE.is("the doing stays", x.rounds(2), 10);
        // Of one bit: add and less make 0; down is the first of all with the longest round, of one.
        UpAndDown y = Due.of("table base 2 long 1;");
        DUE.is("longest", y.best(1, 0), 0);
        DUE.is("most goes: less", y.best(1, 2), 5);
        DUE.is("most goes: down less", y.best(2, 2), 5);
        Due.table(y, "table base 10 long 1;");
        DUE.is("another table", y.best(1, 0), 6);
        DUE.is("another table", y.best(1, 2), 10);
        DUE.is("half add", y.best(2, 0), 1006);
        DUE.is("half less", y.best(2, 2), 1005);
        Due.table(y, "table base 10 long 2;");
        DUE.is("another long: keep", y.best(1, 1), 3);
        DUE.is("another long: down back", y.best(2, 1), 4);
        DUE.is("another long: cube", y.best(1, 2), 8);
        DUE.is("another long: sum add", y.best(2, 2), 906);
        Due.table(y, "table base 7 long 2;");
        DUE.is("another base: square", y.best(1, 2), 7);
        DUE.is("another base: add turn", y.best(2, 0), 602);
        Due.table(y, "table base 2 long 2;");
        DUE.is("another base: turn", y.best(1, 0), 2);
    }

    private static void evening() {
        // From 0: 12345, of which nothing is left; then 21468 of 1406932606.
        UpAndDown x = Due.of("table base 10 long 1;doing times 2;");
        DUE.is("one drawn", x.evening(0, 1, 0), 1);
        DUE.is("0 rests", x.evening(0, 1, 1), 0);
        DUE.is("the first itself", x.evening(0, 1, 2), 1);
        DUE.is("0 and 8", x.evening(0, 2, 0), 2);
        DUE.is("0 and 8", x.evening(0, 2, 1), 0);
        DUE.is("0 and 8", x.evening(0, 2, 2), 1);
        // 654583775 is drawn third: 9988.
        DUE.is("0, 8 and 8", x.evening(0, 3, 0), 2);
        DUE.is("0, 8 and 8", x.evening(0, 3, 2), 1);
        DUE.is("no seed", x.evening(-1, 1, 0), -2);
        DUE.is("no seed", x.evening(2000000001, 1, 0), -2);
        DUE.is("the last seed", x.evening(2000000000, 1, 0), 1);
        DUE.is("none drawn", x.evening(0, 0, 0), -2);
        DUE.is("too many drawn", x.evening(0, 101, 0), -2);
        DUE.is("many drawn", x.evening(0, 100, 0), 2);
        DUE.is("many drawn", x.evening(0, 100, 1), 1);
        DUE.is("one behind many", x.evening(0, 1, 0), 1);
        DUE.is("one behind many", x.evening(0, 1, 1), 0);
        UpAndDown y = Due.of("table base 10 long 1;doing times 0 plus 1;");
        DUE.is("all come to 1", y.evening(0, 100, 2), 100);
        DUE.is("one behind many", y.evening(0, 1, 2), 1);
        DUE.is("of the first alone", y.evening(0, 1, 1), 1);
        DUE.is("another what", x.evening(0, 1, 3), -2);
        DUE.is("another what", x.evening(0, 1, -1), -2);
    }

    private static void noTable() {
        UpAndDown x = new UpAndDown();
        DUE.is("slip", x.slip(0, 0, 0), -2);
        DUE.is("fits", x.fits(0, 0), -2);
        DUE.is("which", x.which(0, 0), -2);
        DUE.is("find", x.find(0, 0), -2);
        DUE.is("found", x.found(0, 0, 0), -2);
        DUE.is("best", x.best(1, 0), -2);
        DUE.is("evening", x.evening(0, 1, 0), -2);
    }
}
