/** Term IV and promises 25 to 32, sentence by sentence: crowds of none, of one and of all; no goes and 200. */
public final class EdgesOfCrowdsTest {
    private static final Due DUE = new Due();
    private static final String ONE_BIT = "table base 2 long 1;";
    private static final String TWO_BITS = "table base 2 long 2;";
    private static final String BYTE = "table base 2 long 8;";
    private static final String GREAT = "table base 10 long 4;";
    private static final String SIXTEEN = "table base 16 long 1;";
    /** 0 and the odd numbers rest; 8192 goes thirteen times to 1. */
    private static final String HALVES = GREAT + "doing half;";
    private static final String COUNTING = GREAT + "doing plus 1;";
    private static final String TO_NOUGHT = GREAT + "doing times 0;";

    public static void main(String[] args) {
        kinds();
        kind();
        odd();
        crowds();
        toldCrowds();
        withoutNumbers();
        sure();
        fewest();
        left();
        rest();
        restBehindGoes();
        out();
        outBounds();
        backAndForth();
        DUE.end("EdgesOfCrowdsTest");
    }

    private static void kinds() {
        DUE.is("25: of one bit", Due.of(ONE_BIT).kinds(), 2);
        DUE.is("25: of two", Due.of(TWO_BITS).kinds(), 3);
        DUE.is("25: of eight", Due.of(BYTE).kinds(), 9);
        DUE.is("25: of one figure", Due.of(SIXTEEN).kinds(), 16);
        DUE.is("25: of the greatest size", Due.of(GREAT).kinds(), 715);
        DUE.is("25: of the greatest base", Due.of("table base 16 long 3;").kinds(), 816);
    }

    private static void kind(String text, int x, int least, int many) {
        UpAndDown object = Due.of(text);
        DUE.is("26: least of the kind of " + x, object.kind(x, 0), least);
        DUE.is("26: how many it has " + x, object.kind(x, 1), many);
        DUE.is("26: what 2", object.kind(x, 2), -2);
        DUE.is("26: what -1", object.kind(x, -1), -2);
    }

    private static void kind() {
        kind(GREAT, 0, 0, 1);
        kind(GREAT, 9999, 9999, 1);
        kind(GREAT, 1000, 1, 4);
        kind(GREAT, 9876, 6789, 24);
        kind(GREAT, 9988, 8899, 6);
        kind(BYTE, 255, 255, 1);
        kind(BYTE, 128, 1, 8);
        kind(BYTE, 0b11110000, 0b1111, 70);
        kind(SIXTEEN, 15, 15, 1);
        kind(ONE_BIT, 1, 1, 1);
        UpAndDown x = Due.of(ONE_BIT);
        DUE.is("26: of one more", x.kind(2, 0), -2);
        DUE.is("26: of one less than 0", x.kind(-1, 1), -2);
    }

    private static void odd() {
        DUE.is("27: one figure, each a kind of its own", Due.of(SIXTEEN + "doing plus 1;").odd(), -1);
        DUE.is("27: goes by kinds", Due.of(GREAT + "doing down keep up less;").odd(), -1);
        DUE.is("27: all to one", Due.of(TO_NOUGHT).odd(), -1);
        DUE.is("27: without words", Due.of(GREAT).odd(), 10);
        DUE.is("27: the least that can be", Due.of(TWO_BITS).odd(), 2);
        DUE.is("27: of three bits, 1, 2 and 4 but the last alike", Due.of("table base 2 long 3;doing half;").odd(), 4);
        // 010 and 100 are one kind with 001: turned about, 001 is 100, and 010 stays.
        DUE.is("27: turned about", Due.of("table base 2 long 3;doing turn;").odd(), 2);
    }

    private static void crowds(String text, int all, int notAlike, int unlike) {
        UpAndDown x = Due.of(text);
        DUE.is("IV: all of " + text, x.left(0, 0), all);
        DUE.is("IV: not all alike of " + text, x.left(1, 0), notAlike);
        DUE.is("IV: unlike of " + text, x.left(2, 0), unlike);
        DUE.is("IV: told of " + text, x.left(3, 0), 0);
        DUE.is("IV: no crowd 4", x.left(4, 0), -2);
        DUE.is("IV: no crowd -1", x.left(-1, 0), -2);
    }

    private static void crowds() {
        crowds(ONE_BIT, 2, 0, 2);
        crowds(TWO_BITS, 4, 2, 2);
        crowds("table base 2 long 3;", 8, 6, 0);
        crowds(BYTE, 256, 254, 0);
        crowds("table base 3 long 3;", 27, 24, 6);
        crowds("table base 3 long 4;", 81, 78, 0);
        crowds(GREAT, 10000, 9990, 5040);
        crowds("table base 16 long 3;", 4096, 4080, 3360);
        crowds(SIXTEEN, 16, 0, 16);
    }

    private static void toldCrowds() {
        DUE.is("IV: one told", Due.of(GREAT + "number 9999;").left(3, 0), 1);
        DUE.is("IV: one told twenty times", Due.of(GREAT + "number 7;".repeat(20)).left(3, 0), 1);
        StringBuilder text = new StringBuilder(COUNTING);
        for (int i = 0; i < 20; i++) {
            text.append("number ").append(9999 - i).append(";");
        }
        UpAndDown x = Due.of(text.toString());
        DUE.is("IV: twenty told", x.left(3, 0), 20);
        DUE.is("IV: twenty told, behind 200", x.left(3, 200), 20);
        DUE.is("IV: the last told is one of them", x.out(3, 0, 980) & 1 << 9, 1 << 9);
        UpAndDown y = Due.of(COUNTING + "number 0;");
        DUE.is("IV: 0 told", y.left(3, 0), 1);
        DUE.is("IV: 0 told is sure", y.sure(3, 0, 0), 0);
    }

    /** Nothing is sure of a crowd that has none, behind no goes nor behind the most. */
    private static void withoutNumbers() {
        String[] texts = {SIXTEEN + "doing plus 1;", BYTE + "doing plus 1;", GREAT + "doing plus 1;"};
        int[] empty = {1, 2, 3};
        for (int i = 0; i < 3; i++) {
            UpAndDown x = Due.of(texts[i]);
            int[] goes = {0, 1, 200};
            for (int n : goes) {
                DUE.is("28: sure of none", x.sure(empty[i], n, 0), -1);
                DUE.is("30: left of none", x.left(empty[i], n), 0);
                DUE.is("31: rest of none", x.rest(empty[i], n), -1);
                DUE.is("32: out of none", x.out(empty[i], n, 0), 0);
            }
            DUE.is("29: fewest of none", x.fewest(empty[i], 0), -1);
            DUE.is("28: no place, of none", x.sure(empty[i], 0, 8), -2);
            DUE.is("29: no place, of none", x.fewest(empty[i], 8), -2);
        }
    }

    private static void sure() {
        UpAndDown x = Due.of(TO_NOUGHT + "number 1234;number 1934;");
        DUE.is("28: all, behind no go", x.sure(0, 0, 0), -1);
        DUE.is("28: all, behind one", x.sure(0, 1, 0), 0);
        DUE.is("28: all, behind the most", x.sure(0, 200, 3), 0);
        DUE.is("28: behind more", x.sure(0, 201, 0), -2);
        DUE.is("28: behind less", x.sure(0, -1, 0), -2);
        DUE.is("28: a place more", x.sure(0, 1, 4), -2);
        DUE.is("28: a place less", x.sure(0, 1, -1), -2);
        DUE.is("28: a crowd more", x.sure(4, 1, 0), -2);
        DUE.is("28: a crowd less", x.sure(-1, 1, 0), -2);
        int[] due = {1, -1, 3, 4};
        for (int place = 0; place < 4; place++) {
            DUE.is("28: the same but at one place, " + place, x.sure(3, 0, place), due[place]);
        }
        UpAndDown y = Due.of(GREAT + "doing plus 5;number 1000;number 1001;number 1002;");
        DUE.is("28: behind 199, the same", y.sure(3, 199, 0), 1);
        DUE.is("28: behind 199, not the same", y.sure(3, 199, 3), -1);
        DUE.is("28: behind 200, the same", y.sure(3, 200, 0), 2);
        DUE.is("28: behind 200, the same", y.sure(3, 200, 2), 0);
        UpAndDown z = Due.of("table base 16 long 3;number 4095;");
        DUE.is("28: the greatest figure", z.sure(3, 200, 0), 15);
        DUE.is("28: of one number, the last place", z.sure(3, 200, 2), 15);
    }

    private static void fewest() {
        DUE.is("29: no goes", Due.of(GREAT + "number 5;").fewest(3, 0), 0);
        DUE.is("29: one go", Due.of(TO_NOUGHT).fewest(0, 0), 1);
        DUE.is("29: one go, the last place", Due.of(TO_NOUGHT).fewest(0, 3), 1);
        DUE.is("29: 199", Due.of(COUNTING + "number 801;number 1000;").fewest(3, 0), 199);
        DUE.is("29: 200", Due.of(COUNTING + "number 800;number 1000;").fewest(3, 0), 200);
        DUE.is("29: 201 are too many", Due.of(COUNTING + "number 799;number 1000;").fewest(3, 0), -1);
        DUE.is("29: never", Due.of(GREAT + "doing keep;").fewest(0, 0), -1);
        DUE.is("29: never, though they go on", Due.of(COUNTING).fewest(0, 3), -1);
        UpAndDown x = Due.of(GREAT);
        DUE.is("29: a place more", x.fewest(0, 4), -2);
        DUE.is("29: a place less", x.fewest(0, -1), -2);
        DUE.is("29: a crowd more", x.fewest(4, 0), -2);
        DUE.is("29: a crowd less", x.fewest(-1, 0), -2);
        // All of two bits change places for ever: 01 and 10 have no figure the same, told behind any goes.
        DUE.is("29: to and fro", Due.of(TWO_BITS + "doing turn;number 1;number 2;").fewest(3, 0), -1);
    }

    private static void left() {
        UpAndDown x = Due.of(HALVES);
        DUE.is("30: behind no go", x.left(0, 0), 10000);
        DUE.is("30: behind 11", x.left(0, 11), 5003);
        DUE.is("30: behind 12", x.left(0, 12), 5002);
        DUE.is("30: behind 13", x.left(0, 13), 5001);
        DUE.is("30: behind 200", x.left(0, 200), 5001);
        DUE.is("30: behind 201", x.left(0, 201), -2);
        DUE.is("30: behind -1", x.left(0, -1), -2);
        DUE.is("30: behind 12 again", x.left(0, 12), 5002);
        DUE.is("30: all to one", Due.of(TO_NOUGHT).left(0, 1), 1);
        DUE.is("30: all stay", Due.of(COUNTING).left(0, 200), 10000);
        // The 128 odd ones stay, and of the even ones half each time.
        UpAndDown y = Due.of(BYTE + "doing half;");
        int[] due = {256, 192, 160};
        for (int n = 0; n < 3; n++) {
            DUE.is("30: of a byte behind " + n, y.left(0, n), due[n]);
        }
    }

    private static void rests(int due, String numbers) {
        DUE.is("31: rest of " + numbers, Due.of(GREAT + numbers).rest(3, 0), due);
    }

    private static void rest() {
        rests(99, "number 0;");
        rests(99, "number 9999;");
        rests(99, "number 5;number 5;");
        rests(-1, "number 0;number 1;");
        rests(2, "number 0;number 2;");
        rests(3, "number 9996;number 9999;");
        rests(97, "number 0;number 97;");
        rests(98, "number 0;number 98;");
        rests(99, "number 0;number 99;");
        rests(50, "number 0;number 100;");
        rests(-1, "number 0;number 101;");
        rests(2, "number 0;number 202;");
        rests(99, "number 0;number 198;");
        rests(99, "number 0;number 9900;");
        rests(-1, "number 0;number 2;number 3;");
        rests(2, "number 1;number 5;number 7;");
        rests(6, "number 1;number 7;number 13;number 31;");
        DUE.is("31: of all", Due.of(GREAT).rest(0, 0), -1);
        DUE.is("31: of one bit", Due.of(ONE_BIT).rest(0, 0), -1);
        // 01 and 10: 1 and 2.
        DUE.is("31: of two", Due.of(TWO_BITS).rest(1, 0), -1);
    }

    private static void restBehindGoes() {
        UpAndDown x = Due.of(TO_NOUGHT);
        DUE.is("31: behind no go", x.rest(0, 0), -1);
        DUE.is("31: behind one, 0 alone", x.rest(0, 1), 99);
        DUE.is("31: behind the most", x.rest(0, 200), 99);
        DUE.is("31: behind more", x.rest(0, 201), -2);
        DUE.is("31: behind less", x.rest(0, -1), -2);
        DUE.is("31: a crowd more", x.rest(4, 0), -2);
        DUE.is("31: a crowd less", x.rest(-1, 0), -2);
        // 9899 and 9999, then 9900 and 0, then 0 and 100.
        UpAndDown y = Due.of(COUNTING + "number 9800;number 9900;");
        DUE.is("31: 100 between them", y.rest(3, 99), 50);
        DUE.is("31: 9900 and 0 between them", y.rest(3, 100), 99);
        DUE.is("31: 100 between them again", y.rest(3, 200), 50);
    }

    private static void out() {
        UpAndDown x = Due.of(COUNTING + "number 1;");
        // Behind 200: 0201.
        int[][] due = {{201, 1}, {21, 1}, {1, 1 << 2}, {20, 1 << 1}, {22, 0}, {0, 0}, {999, 0}};
        for (int[] row : due) {
            DUE.is("32: of 0201, " + row[0], x.out(3, 200, row[0]), row[1]);
        }
        DUE.is("32: of 0001, 0", x.out(3, 0, 0), 1 << 1);
        DUE.is("32: of 0001, 1", x.out(3, 0, 1), 1);
        DUE.is("32: of 0000", Due.of(GREAT + "number 0;").out(3, 0, 0), 1);
        DUE.is("32: of 9999", Due.of(GREAT + "number 9999;").out(3, 0, 999), 1 << 9);
        DUE.is("32: one of two", Due.of(GREAT + "number 1299;number 1929;").out(3, 0, 129), 1 << 9);
        DUE.is("32: each of two", Due.of(GREAT + "number 1299;number 1239;").out(3, 0, 129), 1 << 9 | 1 << 3);
        DUE.is("32: in order", Due.of(GREAT + "number 1234;").out(3, 0, 132), 0);
        DUE.is("32: of all", Due.of(GREAT).out(0, 0, 999), 1023);
        DUE.is("32: of the unlike", Due.of(GREAT).out(2, 0, 123), 1023 - 0b1111 + 1);
        DUE.is("32: of those not all alike", Due.of(GREAT).out(1, 0, 999), 511);
    }

    private static void outBounds() {
        UpAndDown x = Due.of(SIXTEEN + "number 15;");
        DUE.is("32: one figure, all of them", x.out(0, 0, 0), 65535);
        DUE.is("32: one figure, the greatest", x.out(3, 0, 0), 1 << 15);
        DUE.is("32: no number of no figures but 0", x.out(3, 0, 1), -2);
        UpAndDown y = Due.of(BYTE + "number 255;");
        DUE.is("32: the greatest of seven bits", y.out(3, 0, 127), 1 << 1);
        DUE.is("32: eight bits", y.out(3, 0, 128), -2);
        DUE.is("32: below", y.out(3, 0, -1), -2);
        UpAndDown z = Due.of(GREAT);
        DUE.is("32: three figures", z.out(0, 200, 999), 1023);
        DUE.is("32: four figures", z.out(0, 200, 1000), -2);
        DUE.is("32: behind more", z.out(0, 201, 999), -2);
        DUE.is("32: behind less", z.out(0, -1, 999), -2);
        DUE.is("32: a crowd more", z.out(4, 0, 999), -2);
        DUE.is("32: a crowd less", z.out(-1, 0, 999), -2);
    }

    /** Goes and crowds asked in any order answer as if each were asked alone. */
    private static void backAndForth() {
        UpAndDown x = Due.of(HALVES + "number 8192;number 4096;");
        int[] goes = {200, 0, 13, 12, 12, 11, 200, 1};
        int[] all = {5001, 10000, 5001, 5002, 5002, 5003, 5001, 7500};
        int[] told = {1, 2, 1, 2, 2, 2, 1, 2};
        for (int i = 0; i < goes.length; i++) {
            DUE.is("30: all behind " + goes[i], x.left(0, goes[i]), all[i]);
            DUE.is("30: told behind " + goes[i], x.left(3, goes[i]), told[i]);
        }
        DUE.is("29: fewest", x.fewest(3, 3), 13);
        DUE.is("30: told behind 12", x.left(3, 12), 2);
        DUE.is("28: sure behind 13", x.sure(3, 13, 3), 1);
        DUE.is("28: not behind 12", x.sure(3, 12, 3), -1);
    }
}
