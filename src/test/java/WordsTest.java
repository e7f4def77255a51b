/** Promises 6 to 12: words, turning them, numbers and their figures, goes. */
public final class WordsTest {
    private static final Due DUE = new Due();
    private static final String HEAD = "table base 10 long 4;";

    public static void main(String[] args) {
        words();
        turns();
        sizesAndFigures();
        sorts();
        keeping();
        otherBases();
        through();
        after();
        oneBehindAnother();
        noTable();
        DUE.end("WordsTest");
    }

    private static void words() {
        UpAndDown x = Due.of(HEAD + "doing down times 7 plus 0 out 9;");
        DUE.is("word 0 sort", x.word(0, 0), 0);
        DUE.is("word 0 number", x.word(0, 1), -1);
        DUE.is("word 1 sort", x.word(1, 0), 12);
        DUE.is("word 1 number", x.word(1, 1), 7);
        DUE.is("word 2 number", x.word(2, 1), 0);
        DUE.is("word 3 sort", x.word(3, 0), 14);
        DUE.is("word 3 number", x.word(3, 1), 9);
        DUE.is("word 4", x.word(4, 0), -2);
        DUE.is("word -1", x.word(-1, 0), -2);
        DUE.is("another what", x.word(0, 2), -2);
        DUE.is("another what", x.word(0, -1), -2);
        String all = "doing down up turn keep back less add square cube sum half first;";
        UpAndDown y = Due.of(HEAD + all);
        for (int i = 0; i < 12; i++) {
            DUE.is("sort " + i, y.word(i, 0), i);
            DUE.is("number " + i, y.word(i, 1), -1);
        }
        UpAndDown z = Due.of(HEAD + "doing times 5 plus 6 out 7;");
        for (int i = 0; i < 3; i++) {
            DUE.is("sort " + i, z.word(i, 0), 12 + i);
            DUE.is("number " + i, z.word(i, 1), 5 + i);
        }
        DUE.is("no words", Due.of(HEAD).word(0, 0), -2);
    }

    private static void turns() {
        UpAndDown x = Due.of(HEAD + "doing down turn;");
        DUE.is("next", x.next(3524), 2345);
        DUE.is("ends", x.ends(3524, 0), 1);
        DUE.is("turn to the same", x.turn(0, 0, 0), 0);
        DUE.is("turn", x.turn(0, 1, 0), 1);
        DUE.is("next", x.next(3524), 5432);
        DUE.is("ends", x.ends(3524, 3), 5432);
        DUE.is("turn to times", x.turn(1, 12, 99), 1);
        DUE.is("same times", x.turn(1, 12, 99), 0);
        DUE.is("other times", x.turn(1, 12, 98), 1);
        DUE.is("plus of the number", x.turn(1, 13, 98), 1);
        DUE.is("next", x.next(3524), 2345 + 98);
        DUE.is("word", x.word(1, 1), 98);
        DUE.is("out 9", x.turn(1, 14, 9), 1);
        DUE.is("out 10", x.turn(1, 14, 10), -2);
        DUE.is("times 100", x.turn(1, 12, 100), -2);
        DUE.is("plus 100", x.turn(1, 13, 100), -2);
        DUE.is("times -1", x.turn(1, 12, -1), -2);
        DUE.is("down with a number", x.turn(1, 0, 1), -2);
        DUE.is("sort 15", x.turn(1, 15, 0), -2);
        DUE.is("sort -1", x.turn(1, -1, 0), -2);
        DUE.is("word 2", x.turn(2, 0, 0), -2);
        DUE.is("word -1", x.turn(-1, 0, 0), -2);
        DUE.is("stays", x.word(1, 0), 14);
        DUE.is("lines stay", x.count(5), 2);
        UpAndDown y = Due.of("table base 3 long 2;doing up;");
        DUE.is("out 2 of base 3", y.turn(0, 14, 2), 1);
        DUE.is("out 3 of base 3", y.turn(0, 14, 3), -2);
    }

    private static void sizesAndFigures() {
        DUE.is("size", Due.of(HEAD).size(), 10000);
        DUE.is("size", Due.of("table base 2 long 8;").size(), 256);
        DUE.is("size", Due.of("table base 16 long 3;").size(), 4096);
        UpAndDown x = Due.of(HEAD);
        DUE.is("figure", x.figure(42, 0), 0);
        DUE.is("figure", x.figure(42, 1), 0);
        DUE.is("figure", x.figure(42, 2), 4);
        DUE.is("figure", x.figure(42, 3), 2);
        DUE.is("figure", x.figure(42, 4), -2);
        DUE.is("figure", x.figure(42, -1), -2);
        DUE.is("figure", x.figure(10000, 0), -2);
        DUE.is("figure", x.figure(-1, 0), -2);
        UpAndDown y = Due.of("table base 16 long 3;");
        DUE.is("figure", y.figure(0xabc, 0), 10);
        DUE.is("figure", y.figure(0xabc, 2), 12);
    }

    private static void does(String head, String words, int x, int next) {
        UpAndDown object = Due.of(head + "doing " + words + ";");
        DUE.is(head + words + " of " + x, object.next(x), next);
        DUE.is(head + words + " through, of " + x, object.through(x, object.count(2)), next);
        DUE.is(head + words + " after, of " + x, object.after(x, 1), next);
    }

    private static void sorts() {
        does(HEAD, "down", 3087, 8730);
        does(HEAD, "up", 3087, 378);
        does(HEAD, "turn", 3087, 7803);
        does(HEAD, "turn", 10, 100);
        does(HEAD, "keep", 3087, 3087);
        does(HEAD, "back", 3087, 3087);
        does(HEAD, "less", 3087, 0);
        does(HEAD, "add", 3087, 6174);
        does(HEAD, "add", 5001, 2);
        does(HEAD, "square", 3087, 122);
        does(HEAD, "cube", 3087, 882);
        does(HEAD, "sum", 3087, 18);
        does(HEAD, "half", 3087, 3087);
        does(HEAD, "half", 3086, 1543);
        does(HEAD, "first", 3087, 873);
        does(HEAD, "first", 87, 870);
        does(HEAD, "times 7", 3087, 1609);
        does(HEAD, "times 0", 3087, 0);
        does(HEAD, "plus 99", 9999, 98);
        does(HEAD, "plus 0", 9999, 9999);
        does(HEAD, "out 0", 3087, 387);
        does(HEAD, "out 3", 3087, 87);
        does(HEAD, "out 1", 3087, 3087);
        does(HEAD, "out 0", 12, 12);
        does(HEAD, "out 1", 1012, 2);
        does(HEAD, "out 3", 3333, 0);
        does(HEAD, "out 0", 0, 0);
    }

    private static void keeping() {
        does(HEAD, "down keep up less", 3524, 3087);
        does(HEAD, "up keep down less", 3524, 3087);
        does(HEAD, "down keep up add", 3524, 7777);
        does(HEAD, "down up less", 3524, 3524 - 2345);
        does(HEAD, "down back", 3524, 3524);
        does(HEAD, "down keep up back", 3524, 5432);
        does(HEAD, "down keep up keep turn back", 3524, 2345);
        does(HEAD, "turn add", 3524, 3524 + 4253);
        does(HEAD, "plus 9 keep times 2 less", 5000, 9 - (5009 * 2 % 10000 - 5000));
        does(HEAD, "down up turn keep back less add square cube sum half first", 3524, 90);
    }

    private static void otherBases() {
        does("table base 2 long 3;", "square", 7, 3);
        does("table base 2 long 1;", "add", 1, 0);
        does("table base 16 long 3;", "square", 0xfff, 675);
        does("table base 16 long 3;", "cube", 0xfff, 3 * 15 * 15 * 15 % 4096);
        does("table base 16 long 2;", "square", 0xff, 450 % 256);
        does("table base 16 long 1;", "square", 15, 225 % 16);
        does("table base 16 long 1;", "sum", 15, 15);
        does("table base 2 long 2;", "sum", 3, 2);
        does("table base 16 long 3;", "down", 0x1fa, 0xfa1);
        does("table base 16 long 3;", "first", 0x1fa, 0xfa1);
        does("table base 10 long 1;", "first", 7, 7);
        does("table base 10 long 1;", "turn", 7, 7);
        does("table base 2 long 8;", "up", 0b10110010, 0b1111);
        does("table base 2 long 8;", "first", 0b10110010, 0b1100101);
    }

    private static void through() {
        UpAndDown x = Due.of(HEAD + "doing down keep up less;");
        DUE.is("through 0", x.through(3524, 0), 3524);
        DUE.is("through 1", x.through(3524, 1), 5432);
        DUE.is("through 2", x.through(3524, 2), 5432);
        DUE.is("through 3", x.through(3524, 3), 2345);
        DUE.is("through 4", x.through(3524, 4), 3087);
        DUE.is("through 5", x.through(3524, 5), -2);
        DUE.is("through -1", x.through(3524, -1), -2);
        DUE.is("through of none", x.through(10000, 0), -2);
        DUE.is("next of none", x.next(10000), -2);
        DUE.is("next of none", x.next(-1), -2);
    }

    private static void after() {
        UpAndDown x = Due.of(HEAD + "doing down keep up less;");
        DUE.is("after 0", x.after(3524, 0), 3524);
        DUE.is("after 2", x.after(3524, 2), 8352);
        DUE.is("after 3", x.after(3524, 3), 6174);
        DUE.is("after a lot", x.after(3524, 1000000000), 6174);
        DUE.is("after more", x.after(3524, 1000000001), -2);
        DUE.is("after less", x.after(3524, -1), -2);
        DUE.is("after of none", x.after(-1, 0), -2);
        DUE.is("after of none", x.after(10000, 0), -2);
        UpAndDown y = Due.of("table base 10 long 1;doing times 2;");
        DUE.is("after a lot", y.after(1, 1000000000), 6);
        DUE.is("after a lot", y.after(1, 999999999), 8);
        UpAndDown z = Due.of(HEAD + "doing plus 1;");
        DUE.is("on one long round", z.after(7, 1000000000), 7);
        DUE.is("on one long round", z.after(7, 999999999), 6);
        DUE.is("on one long round", z.after(7, 9999), 6);
    }

    /** Nothing of a table is left for the next one, be base, long or neither another. */
    private static void oneBehindAnother() {
        UpAndDown x = Due.of(HEAD + "doing up;");
        DUE.is("base 10 long 4", x.next(3201), 123);
        Due.table(x, "table base 10 long 2;doing turn;");
        DUE.is("base 10 long 2", x.next(32), 23);
        DUE.is("base 10 long 2", x.size(), 100);
        Due.table(x, "table base 3 long 2;doing turn;");
        DUE.is("base 3 long 2", x.next(5), 7);
        Due.table(x, "table base 3 long 2;doing first plus 1;");
        DUE.is("base 3 long 2", x.next(5), 8);
        Due.table(x, "table base 2 long 3;");
        DUE.is("kinds", x.kinds(), 4);
        DUE.is("kind", x.kind(0, 1), 1);
        DUE.is("rests", x.rounds(1), 8);
        DUE.is("take", x.take(0), 8);
        DUE.is("from", x.from(0, -1), 1);
        DUE.is("most", x.most(2), 8);
    }

    private static void noTable() {
        UpAndDown x = new UpAndDown();
        DUE.is("word", x.word(0, 0), -2);
        DUE.is("turn", x.turn(0, 0, 0), -2);
        DUE.is("size", x.size(), -2);
        DUE.is("figure", x.figure(0, 0), -2);
        DUE.is("next", x.next(0), -2);
        DUE.is("through", x.through(0, 0), -2);
        DUE.is("after", x.after(0, 0), -2);
    }
}
