/** Promises 25 to 32: kinds of figures, and what is sure for a crowd behind some goes. */
public final class CrowdsTest {
    private static final Due DUE = new Due();
    private static final String KAPREKAR = "table base 10 long 4;doing down keep up less;";
    private static final String TOLD = "number 3524;number 3087;number 3524;";

    public static void main(String[] args) {
        kinds();
        odd();
        sure();
        fewest();
        left();
        rest();
        out();
        emptyCrowds();
        changes();
        wrong();
        DUE.end("CrowdsTest");
    }

    private static void kinds() {
        UpAndDown x = Due.of(KAPREKAR);
        DUE.is("kinds", x.kinds(), 715);
        DUE.is("least", x.kind(6174, 0), 1467);
        DUE.is("how many", x.kind(6174, 1), 24);
        DUE.is("least", x.kind(7000, 0), 7);
        DUE.is("how many", x.kind(7000, 1), 4);
        DUE.is("how many", x.kind(7707, 1), 4);
        DUE.is("how many", x.kind(7007, 1), 6);
        DUE.is("how many", x.kind(7777, 1), 1);
        DUE.is("kind 2", x.kind(7, 2), -2);
        DUE.is("kind -1", x.kind(7, -1), -2);
        DUE.is("kind of none", x.kind(10000, 0), -2);
        DUE.is("kind of none", x.kind(-1, 1), -2);
        DUE.is("of noughts", x.kind(0, 1), 1);
        DUE.is("of noughts", Due.of("table base 2 long 3;").kind(0, 1), 1);
        DUE.is("kinds", Due.of("table base 2 long 3;").kinds(), 4);
        DUE.is("kinds", Due.of("table base 16 long 3;").kinds(), 816);
    }

    private static void odd() {
        DUE.is("by kinds", Due.of(KAPREKAR).odd(), -1);
        DUE.is("by kinds", Due.of("table base 10 long 4;doing sum;").odd(), -1);
        DUE.is("by none", Due.of("table base 10 long 4;").odd(), 10);
        DUE.is("by none", Due.of("table base 2 long 3;doing turn;").odd(), 2);
        // 01 stays and 10 is halved to it; of 001, 010 and 100 the last is halved to 010.
        DUE.is("half", Due.of("table base 2 long 2;doing half;").odd(), -1);
        DUE.is("half of three", Due.of("table base 2 long 3;doing half;").odd(), 4);
        DUE.is("no table", new UpAndDown().odd(), -2);
    }

    private static void sure() {
        UpAndDown x = Due.of(KAPREKAR + TOLD);
        DUE.is("sure", x.sure(1, 7, 0), 6);
        DUE.is("sure", x.sure(1, 7, 1), 1);
        DUE.is("sure", x.sure(1, 7, 2), 7);
        DUE.is("sure", x.sure(1, 7, 3), 4);
        DUE.is("sure", x.sure(1, 200, 3), 4);
        DUE.is("not yet", x.sure(1, 6, 0), -1);
        DUE.is("not for all", x.sure(0, 7, 0), -1);
        DUE.is("told, now", x.sure(3, 0, 0), 3);
        DUE.is("told, now", x.sure(3, 0, 1), -1);
        DUE.is("told, behind one", x.sure(3, 1, 0), -1);
        DUE.is("told, behind two", x.sure(3, 2, 0), -1);
        DUE.is("told, behind three", x.sure(3, 3, 0), 6);
        DUE.is("told, now again", x.sure(3, 0, 0), 3);
    }

    private static void fewest() {
        UpAndDown x = Due.of(KAPREKAR + TOLD);
        DUE.is("fewest", x.fewest(1, 0), 7);
        DUE.is("fewest", x.fewest(0, 0), -1);
        DUE.is("fewest told", x.fewest(3, 0), 0);
        DUE.is("fewest told", x.fewest(3, 1), 3);
        // 0000 and 0199, then 0001 and 0200.
        UpAndDown y = Due.of("table base 10 long 4;doing plus 1;number 0;number 199;");
        DUE.is("behind a while", y.fewest(3, 2), 1);
        DUE.is("never", Due.of("table base 10 long 2;doing plus 10;number 0;number 1;").fewest(3, 1), -1);
        // 799 has a first figure of 1 behind 201 goes, 800 behind 200.
        UpAndDown late = Due.of("table base 10 long 4;doing plus 1;number 799;number 1000;");
        DUE.is("too late", late.fewest(3, 0), -1);
        UpAndDown just = Due.of("table base 10 long 4;doing plus 1;number 800;number 1000;");
        DUE.is("just in time", just.fewest(3, 0), 200);
    }

    private static void left() {
        UpAndDown x = Due.of(KAPREKAR + TOLD);
        DUE.is("left", x.left(0, 0), 10000);
        DUE.is("left", x.left(1, 0), 9990);
        DUE.is("left", x.left(2, 0), 5040);
        DUE.is("left", x.left(3, 0), 2);
        DUE.is("left", x.left(3, 3), 1);
        DUE.is("left", x.left(0, 7), 2);
        DUE.is("left", x.left(1, 7), 1);
        DUE.is("left", x.left(1, 200), 1);
        UpAndDown y = Due.of("table base 10 long 1;doing times 2;");
        DUE.is("left", y.left(0, 1), 5);
        DUE.is("left", y.left(0, 200), 5);
        DUE.is("one figure is all alike", y.left(1, 0), 0);
        DUE.is("one figure has no like one", y.left(2, 0), 10);
    }

    private static void rest() {
        UpAndDown x = Due.of(KAPREKAR + TOLD);
        DUE.is("rest", x.rest(0, 1), 9);
        DUE.is("rest", x.rest(0, 0), -1);
        DUE.is("of one", x.rest(1, 7), 99);
        DUE.is("of 0 and 6174", x.rest(0, 7), 98);
        DUE.is("told: 437 is 19 times 23", x.rest(3, 0), 23);
        UpAndDown y = Due.of("table base 10 long 4;number 5;number 104;");
        DUE.is("by 99", y.rest(3, 0), 99);
        UpAndDown z = Due.of("table base 10 long 4;number 5;number 106;");
        DUE.is("by 101 alone", z.rest(3, 0), -1);
        UpAndDown two = Due.of("table base 10 long 4;number 5;number 7;");
        DUE.is("by 2", two.rest(3, 0), 2);
    }

    private static void out() {
        UpAndDown x = Due.of(KAPREKAR + TOLD);
        DUE.is("out 1", x.out(1, 7, 674), 1 << 1);
        DUE.is("out 4", x.out(1, 7, 617), 1 << 4);
        DUE.is("out 6", x.out(1, 7, 174), 1 << 6);
        DUE.is("out 7", x.out(1, 7, 614), 1 << 7);
        DUE.is("not in order", x.out(1, 7, 647), 0);
        DUE.is("none", x.out(1, 7, 999), 0);
        DUE.is("too many figures", x.out(1, 7, 1000), -2);
        DUE.is("below", x.out(1, 7, -1), -2);
        DUE.is("of all", x.out(0, 0, 0), 1023);
        DUE.is("noughts ahead", x.out(0, 7, 0), 1);
        UpAndDown y = Due.of("table base 10 long 2;number 12;number 21;number 33;");
        DUE.is("two may be", y.out(3, 0, 1), 1 << 2);
        DUE.is("one and three", y.out(3, 0, 2), 1 << 1);
        DUE.is("like ones", y.out(3, 0, 3), 1 << 3);
        UpAndDown z = Due.of("table base 10 long 1;number 3;number 8;");
        DUE.is("without figures", z.out(3, 0, 0), 1 << 3 | 1 << 8);
        DUE.is("without figures", z.out(3, 0, 1), -2);
    }

    private static void emptyCrowds() {
        UpAndDown x = Due.of("table base 2 long 8;doing plus 1;");
        int[] empty = {2, 3};
        for (int crowd : empty) {
            DUE.is("left", x.left(crowd, 0), 0);
            DUE.is("left", x.left(crowd, 200), 0);
            DUE.is("sure", x.sure(crowd, 3, 0), -1);
            DUE.is("fewest", x.fewest(crowd, 0), -1);
            DUE.is("rest", x.rest(crowd, 3), -1);
            DUE.is("out", x.out(crowd, 3, 0), 0);
        }
    }

    private static void changes() {
        UpAndDown x = Due.of("table base 10 long 2;doing plus 1;number 1;number 11;");
        DUE.is("ahead", x.sure(3, 3, 1), 4);
        DUE.is("turn", x.turn(0, 12, 9), 1);
        DUE.is("behind a turn", x.sure(3, 3, 1), 9);
        DUE.is("best", x.best(1, 1) >= 0 ? 1 : 0, 1);
        DUE.is("behind best", x.sure(3, 4, 1), 1);
        DUE.is("behind best", x.next(2), 18);
        DUE.is("behind best", x.ends(2, 1), 10);
        Due.table(x, "table base 10 long 2;doing plus 1;number 7;");
        DUE.is("behind another table", x.sure(3, 3, 1), 0);
    }

    private static void wrong() {
        UpAndDown none = new UpAndDown();
        DUE.is("kinds", none.kinds(), -2);
        DUE.is("kind", none.kind(0, 0), -2);
        DUE.is("sure", none.sure(0, 0, 0), -2);
        DUE.is("fewest", none.fewest(0, 0), -2);
        DUE.is("left", none.left(0, 0), -2);
        DUE.is("rest", none.rest(0, 0), -2);
        DUE.is("out", none.out(0, 0, 0), -2);
        UpAndDown x = Due.of(KAPREKAR);
        int[][] bad = {{-1, 0, 0}, {4, 0, 0}, {0, -1, 0}, {0, 201, 0}};
        for (int[] row : bad) {
            DUE.is("sure", x.sure(row[0], row[1], row[2]), -2);
            DUE.is("left", x.left(row[0], row[1]), -2);
            DUE.is("rest", x.rest(row[0], row[1]), -2);
            DUE.is("out", x.out(row[0], row[1], row[2]), -2);
        }
        DUE.is("sure", x.sure(0, 0, 4), -2);
        DUE.is("sure", x.sure(0, 0, -1), -2);
        DUE.is("fewest", x.fewest(4, 0), -2);
        DUE.is("fewest", x.fewest(-1, 0), -2);
        DUE.is("fewest", x.fewest(0, 4), -2);
        DUE.is("fewest", x.fewest(0, -1), -2);
    }
}
