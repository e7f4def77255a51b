/** Promises 13 to 24: rounds, goes till them, gardens, ways back, who meet and join. */
public final class RoundsTest {
    private static final Due DUE = new Due();
    private static final String KAPREKAR = "table base 10 long 4;doing down keep up less;";
    /** 0 to itself; 2 4 8 6 round; 1 3 7 9 come to it, 5 to 0. */
    private static final String TWICE = "table base 10 long 1;doing times 2;";
    /** Rounds 0 1 4 5 and 2 7 6 3. */
    private static final String TWO_ROUNDS = "table base 2 long 3;doing times 3 plus 1;";

    public static void main(String[] args) {
        ends();
        rounds();
        roundByRound();
        onRounds();
        mostAndTake();
        gardens();
        from();
        back();
        meet();
        join();
        nought();
        noTable();
        DUE.end("RoundsTest");
    }

    private static void ends() {
        UpAndDown x = Due.of(TWICE);
        int[][] due = {{0, 0, 1, 0, 0}, {1, 1, 4, 2, 2}, {6, 0, 4, 2, 6}, {9, 1, 4, 2, 8}, {5, 1, 1, 0, 0}};
        for (int[] row : due) {
            for (int what = 0; what < 4; what++) {
                DUE.is("ends " + row[0] + " " + what, x.ends(row[0], what), row[what + 1]);
            }
        }
        DUE.is("ends 0 4", x.ends(0, 4), -2);
        DUE.is("ends 0 -1", x.ends(0, -1), -2);
        DUE.is("ends 10", x.ends(10, 0), -2);
        DUE.is("ends -1", x.ends(-1, 0), -2);
        UpAndDown y = Due.of(KAPREKAR);
        DUE.is("ends", y.ends(3524, 0), 3);
        DUE.is("ends", y.ends(3524, 3), 6174);
        DUE.is("ends", y.ends(7777, 0), 1);
        DUE.is("ends", y.ends(7777, 2), 0);
    }

    private static void rounds() {
        UpAndDown x = Due.of(TWICE);
        DUE.is("rounds", x.rounds(0), 2);
        DUE.is("rests", x.rounds(1), 1);
        DUE.is("longest", x.rounds(2), 4);
        DUE.is("least on it", x.rounds(3), 2);
        DUE.is("rounds 4", x.rounds(4), -2);
        DUE.is("rounds -1", x.rounds(-1), -2);
        UpAndDown y = Due.of(KAPREKAR);
        DUE.is("rounds", y.rounds(0), 2);
        DUE.is("rests", y.rounds(1), 2);
        DUE.is("longest", y.rounds(2), 1);
        DUE.is("least on the first", y.rounds(3), 0);
        UpAndDown z = Due.of("table base 10 long 4;");
        DUE.is("all rest", z.rounds(0), 10000);
        DUE.is("all rest", z.rounds(1), 10000);
        UpAndDown one = Due.of("table base 10 long 4;doing plus 1;");
        DUE.is("one round", one.rounds(0), 1);
        DUE.is("one round", one.rounds(1), 0);
        DUE.is("one round", one.rounds(2), 10000);
        DUE.is("one round", one.rounds(3), 0);
        UpAndDown two = Due.of(TWO_ROUNDS);
        DUE.is("two as long", two.rounds(2), 4);
        DUE.is("the first of them", two.rounds(3), 0);
    }

    private static void roundByRound() {
        UpAndDown x = Due.of(TWICE);
        int[][] due = {{0, 1, 2, 1}, {2, 4, 8, 1}};
        for (int i = 0; i < 2; i++) {
            for (int what = 0; what < 4; what++) {
                DUE.is("round " + i + " " + what, x.round(i, what), due[i][what]);
            }
        }
        DUE.is("round 2", x.round(2, 0), -1);
        DUE.is("round -1", x.round(-1, 0), -1);
        DUE.is("another what", x.round(0, 4), -2);
        DUE.is("another what", x.round(0, -1), -2);
        DUE.is("no round and another what", x.round(2, 4), -2);
        UpAndDown y = Due.of(KAPREKAR);
        DUE.is("come to 0", y.round(0, 2), 10);
        DUE.is("come to 6174", y.round(1, 2), 9990);
        DUE.is("least", y.round(1, 0), 6174);
        DUE.is("most goes", y.round(1, 3), 7);
        DUE.is("most goes", y.round(0, 3), 1);
        UpAndDown z = Due.of(TWO_ROUNDS);
        DUE.is("without comers", z.round(1, 2), 4);
        DUE.is("without goes", z.round(1, 3), 0);
    }

    private static void onRounds() {
        UpAndDown x = Due.of(TWO_ROUNDS);
        int[][] due = {{0, 1, 4, 5, -1}, {2, 7, 6, 3, -1}, {-1, -1, -1, -1, -1}};
        for (int i = 0; i < 3; i++) {
            for (int k = 0; k < 5; k++) {
                DUE.is("on " + i + " " + k, x.on(i, k), due[i][k]);
            }
        }
        DUE.is("on 0 -1", x.on(0, -1), -1);
        DUE.is("on -1 0", x.on(-1, 0), -1);
        UpAndDown y = Due.of("table base 10 long 4;doing plus 3;");
        DUE.is("on a long one", y.on(0, 9999), 9997);
        DUE.is("on a long one", y.on(0, 10000), -1);
    }

    private static void mostAndTake() {
        UpAndDown x = Due.of(TWICE);
        DUE.is("most goes", x.most(0), 1);
        DUE.is("least that takes them", x.most(1), 1);
        DUE.is("how many do", x.most(2), 5);
        DUE.is("most 3", x.most(3), -2);
        DUE.is("most -1", x.most(-1), -2);
        DUE.is("take 0", x.take(0), 5);
        DUE.is("take 1", x.take(1), 5);
        DUE.is("take 2", x.take(2), 0);
        DUE.is("take many", x.take(2000000000), 0);
        DUE.is("take -1", x.take(-1), -2);
        UpAndDown y = Due.of(KAPREKAR);
        DUE.is("most goes", y.most(0), 7);
        DUE.is("take 8", y.take(8), 0);
        DUE.is("take 0", y.take(0), 2);
        int all = 0;
        for (int n = 0; n < 8; n++) {
            all += y.take(n);
        }
        DUE.is("all take some", all, 10000);
        DUE.is("as many", y.take(7), y.most(2));
        UpAndDown z = Due.of(TWO_ROUNDS);
        DUE.is("none goes", z.most(0), 0);
        DUE.is("the least", z.most(1), 0);
        DUE.is("all do", z.most(2), 8);
    }

    private static void gardens() {
        UpAndDown x = Due.of(TWICE);
        DUE.is("gardens", x.gardens(), 5);
        for (int i = 0; i < 5; i++) {
            DUE.is("garden " + i, x.garden(i), 2 * i + 1);
        }
        DUE.is("garden 5", x.garden(5), -1);
        DUE.is("garden -1", x.garden(-1), -1);
        UpAndDown y = Due.of(TWO_ROUNDS);
        DUE.is("no gardens", y.gardens(), 0);
        DUE.is("no garden", y.garden(0), -1);
    }

    private static void from() {
        UpAndDown x = Due.of(TWICE);
        DUE.is("from 6", x.from(6, -1), 2);
        DUE.is("from 6 0", x.from(6, 0), 3);
        DUE.is("from 6 1", x.from(6, 1), 8);
        DUE.is("from 6 2", x.from(6, 2), -1);
        DUE.is("from 6 -2", x.from(6, -2), -2);
        DUE.is("from 0 0", x.from(0, 0), 0);
        DUE.is("from 0 1", x.from(0, 1), 5);
        DUE.is("from 9", x.from(9, -1), 0);
        DUE.is("from 9 0", x.from(9, 0), -1);
        DUE.is("from 10", x.from(10, -1), -2);
        DUE.is("from -1", x.from(-1, -1), -2);
        UpAndDown y = Due.of(KAPREKAR);
        DUE.is("into 0", y.from(0, -1), 10);
        DUE.is("into 0", y.from(0, 9), 9999);
        DUE.is("into 0", y.from(0, 10), -1);
        DUE.is("into 1", y.from(1, -1), 0);
    }

    private static void back() {
        UpAndDown x = Due.of(TWICE);
        int[] due = {1, 2, 2, 2, 1, 0, 0};
        for (int n = 0; n < due.length; n++) {
            DUE.is("back 6 " + n, x.back(6, n), due[n]);
        }
        DUE.is("back 0 1", x.back(0, 1), 1);
        DUE.is("back 6 200", x.back(6, 200), 0);
        DUE.is("back 6 201", x.back(6, 201), -2);
        DUE.is("back 6 -1", x.back(6, -1), -2);
        DUE.is("back 10", x.back(10, 0), -2);
        DUE.is("back -1", x.back(-1, 0), -2);
        UpAndDown y = Due.of("table base 10 long 4;doing plus 1;");
        DUE.is("back 200", y.back(0, 200), 1);
        UpAndDown z = Due.of("table base 10 long 4;doing times 0;");
        DUE.is("back 1", z.back(0, 1), 9999);
        DUE.is("back 2", z.back(0, 2), 0);
    }

    private static void meet() {
        UpAndDown x = Due.of(TWICE);
        DUE.is("meet 1 6", x.meet(1, 6), 1);
        DUE.is("meet 1 7", x.meet(1, 7), -1);
        DUE.is("meet 2 2", x.meet(2, 2), 0);
        DUE.is("meet 3 8", x.meet(3, 8), 1);
        DUE.is("meet 0 1", x.meet(0, 1), -1);
        DUE.is("meet 2 4", x.meet(2, 4), -1);
        DUE.is("meet 10", x.meet(10, 0), -2);
        DUE.is("meet -1", x.meet(0, -1), -2);
        UpAndDown y = Due.of(KAPREKAR);
        DUE.is("meet", y.meet(3524, 3087), 3);
        DUE.is("meet", y.meet(3524, 5432), 1);
        DUE.is("meet", y.meet(3524, 0), -1);
    }

    private static void joins(UpAndDown x, int a, int b, int it, int goesOfA, int goesOfB) {
        DUE.is("join " + a + " " + b, x.join(a, b, 0), it);
        DUE.is("join goes " + a + " " + b, x.join(a, b, 1), goesOfA);
        DUE.is("join goes of y " + a + " " + b, x.join(a, b, 2), goesOfB);
    }

    private static void join() {
        UpAndDown x = Due.of(TWICE);
        joins(x, 1, 7, 2, 1, 4);
        joins(x, 7, 1, 4, 1, 2);
        joins(x, 5, 1, -1, -1, -1);
        joins(x, 6, 6, 6, 0, 0);
        joins(x, 6, 8, 6, 0, 1);
        joins(x, 8, 6, 8, 0, 3);
        joins(x, 3, 8, 6, 1, 1);
        joins(x, 9, 9, 9, 0, 0);
        DUE.is("join 3", x.join(1, 7, 3), -2);
        DUE.is("join -1", x.join(1, 7, -1), -2);
        DUE.is("join of none", x.join(10, 7, 0), -2);
        DUE.is("join of none", x.join(1, -1, 0), -2);
        UpAndDown y = Due.of(KAPREKAR);
        joins(y, 3524, 3087, 3087, 1, 0);
        joins(y, 3087, 3524, 3087, 0, 1);
        joins(y, 3524, 6174, 6174, 3, 0);
    }

    /** 0 is a garden itself, the only one ahead of all others. */
    private static void nought() {
        UpAndDown x = Due.of("table base 10 long 1;doing times 2 plus 1;");
        DUE.is("gardens", x.gardens(), 5);
        DUE.is("garden 0", x.garden(0), 0);
        DUE.is("garden 1", x.garden(1), 2);
        DUE.is("0 goes", x.ends(0, 0), 1);
        DUE.is("0 comes", x.ends(0, 3), 1);
        DUE.is("rounds", x.rounds(0), 2);
        DUE.is("least that takes most", x.most(1), 0);
        DUE.is("take 0", x.take(0), 5);
        UpAndDown y = Due.of("table base 2 long 1;doing times 0 plus 1;");
        DUE.is("come to 1", y.round(0, 2), 2);
        DUE.is("most goes", y.round(0, 3), 1);
        DUE.is("most goes", y.most(0), 1);
    }

    private static void noTable() {
        UpAndDown x = new UpAndDown();
        DUE.is("ends", x.ends(0, 0), -2);
        DUE.is("rounds", x.rounds(0), -2);
        DUE.is("round", x.round(0, 0), -2);
        DUE.is("on", x.on(0, 0), -2);
        DUE.is("most", x.most(0), -2);
        DUE.is("take", x.take(0), -2);
        DUE.is("gardens", x.gardens(), -2);
        DUE.is("garden", x.garden(0), -2);
        DUE.is("from", x.from(0, -1), -2);
        DUE.is("back", x.back(0, 0), -2);
        DUE.is("meet", x.meet(0, 0), -2);
        DUE.is("join", x.join(0, 0, 0), -2);
    }
}
