/** Term II and promises 6, 7 and 9 to 24, sentence by sentence: the least and the greatest of each. */
public final class EdgesOfGoesTest {
    private static final Due DUE = new Due();
    private static final String ONE_BIT = "table base 2 long 1;";
    private static final String BYTE = "table base 2 long 8;";
    private static final String GREAT = "table base 10 long 4;";
    private static final String SIXTEEN = "table base 16 long 1;";
    /** 0 and the odd numbers rest; 8192 goes thirteen times to 1. */
    private static final String HALVES = GREAT + "doing half;";
    private static final String ROUND = GREAT + "doing plus 1;";
    private static final String TO_NOUGHT = GREAT + "doing times 0;";
    /** 0 to itself; 2 4 8 6 round; 1 3 7 9 come to it, 5 to 0. */
    private static final String TWICE = "table base 10 long 1;doing times 2;";

    public static void main(String[] args) {
        sorted();
        together();
        halved();
        numbered();
        leftOut();
        kept();
        wordsOfTheDoing();
        turnBounds();
        turnAnswers();
        turnFromNowOn();
        sizesAndFigures();
        through();
        after();
        ends();
        rounds();
        round();
        on();
        most();
        take();
        gardens();
        from();
        back();
        backOnRounds();
        meet();
        join();
        withoutWords();
        DUE.end("EdgesOfGoesTest");
    }

    private static void does(String head, String words, int x, int due) {
        UpAndDown object = Due.of(head + "doing " + words + ";");
        DUE.is("II: " + head + words + " of " + x, object.next(x), due);
    }

    private static void sorted() {
        String[] plain = {"down", "up", "turn", "keep", "back", "first"};
        for (String word : plain) {
            does(ONE_BIT, word, 0, 0);
            does(ONE_BIT, word, 1, 1);
            does(SIXTEEN, word, 15, 15);
            does(GREAT, word, 0, 0);
            does(GREAT, word, 9999, 9999);
            does(BYTE, word, 255, 255);
        }
        does(BYTE, "down", 1, 128);
        does(BYTE, "up", 128, 1);
        does(BYTE, "turn", 128, 1);
        does(BYTE, "turn", 1, 128);
        does(BYTE, "first", 128, 1);
        does(BYTE, "first", 1, 2);
        does(BYTE, "first", 255 - 128, 254);
        does(GREAT, "down", 1, 1000);
        does(GREAT, "up", 1000, 1);
        does(GREAT, "first", 9000, 9);
        does("table base 16 long 3;", "down", 0x0f1, 0xf10);
        does("table base 16 long 3;", "up", 0xf01, 0x01f);
        does("table base 16 long 3;", "turn", 0xf01, 0x10f);
    }

    /** Sums are modulo SIZE: just below it, it and just beyond. */
    private static void together() {
        does(GREAT, "add", 0, 0);
        does(GREAT, "add", 4999, 9998);
        does(GREAT, "add", 5000, 0);
        does(GREAT, "add", 5001, 2);
        does(GREAT, "add", 9999, 9998);
        does(ONE_BIT, "add", 1, 0);
        does(GREAT, "less", 9999, 0);
        does(GREAT, "less", 0, 0);
        does(GREAT, "turn less", 1, 999);
        does(GREAT, "turn less", 1000, 999);
        does(GREAT, "times 0 less", 9999, 9999);
        does(GREAT, "square", 9999, 324);
        does(GREAT, "cube", 9999, 2916);
        does(GREAT, "sum", 9999, 36);
        does(GREAT, "square", 0, 0);
        does(GREAT, "cube", 0, 0);
        does(GREAT, "sum", 0, 0);
        does(SIXTEEN, "square", 3, 9);
        does(SIXTEEN, "square", 4, 0);
        does(SIXTEEN, "square", 5, 9);
        does(SIXTEEN, "cube", 2, 8);
        does(SIXTEEN, "cube", 4, 0);
        does(SIXTEEN, "cube", 15, 15);
        does(SIXTEEN, "sum", 15, 15);
        does(BYTE, "square", 255, 8);
        does(BYTE, "cube", 255, 8);
        does(BYTE, "sum", 255, 8);
        does("table base 16 long 2;", "cube", 0xff, 6750 % 256);
    }

    private static void halved() {
        does(GREAT, "half", 0, 0);
        does(GREAT, "half", 1, 1);
        does(GREAT, "half", 2, 1);
        does(GREAT, "half", 9998, 4999);
        does(GREAT, "half", 9999, 9999);
        does(ONE_BIT, "half", 1, 1);
    }

    private static void numbered() {
        does(GREAT, "times 0", 9999, 0);
        does(GREAT, "times 1", 9999, 9999);
        does(GREAT, "times 99", 9999, 9901);
        does(GREAT, "times 2", 4999, 9998);
        does(GREAT, "times 2", 5000, 0);
        does(GREAT, "plus 0", 9999, 9999);
        does(GREAT, "plus 99", 9900, 9999);
        does(GREAT, "plus 99", 9901, 0);
        does(GREAT, "plus 99", 9999, 98);
        does(ONE_BIT, "plus 99", 0, 1);
        does(ONE_BIT, "plus 99", 1, 0);
        does(ONE_BIT, "times 99", 1, 1);
        does(SIXTEEN, "times 99", 15, 13);
        does(GREAT, "times 99 times 99 times 99", 9999, 10000 - 970299 % 10000);
    }

    private static void leftOut() {
        does(GREAT, "out 0", 1020, 12);
        does(GREAT, "out 0", 0, 0);
        does(GREAT, "out 9", 9999, 0);
        does(GREAT, "out 9", 1919, 11);
        does(GREAT, "out 9", 9990, 0);
        does(GREAT, "out 5", 1234, 1234);
        does(GREAT, "out 1", 12, 2);
        does(ONE_BIT, "out 1", 1, 0);
        does(ONE_BIT, "out 0", 1, 1);
        does(ONE_BIT, "out 0", 0, 0);
        does("table base 16 long 3;", "out 15", 0xf1f, 1);
        does("table base 16 long 3;", "out 15", 0xfff, 0);
        does(BYTE, "out 0", 0b10101010, 0b1111);
        does(BYTE, "out 1", 0b10101010, 0);
    }

    private static void kept() {
        does(GREAT, "plus 1 back", 41, 41);
        does(GREAT, "plus 1 keep plus 1 back", 41, 42);
        does(GREAT, "plus 1 keep plus 1 keep plus 1 back", 41, 43);
        does(GREAT, "plus 1 back keep plus 5 back", 41, 41);
        does(GREAT, "plus 1 add", 41, 83);
        does(GREAT, "plus 1 add less", 41, 42);
        does(GREAT, "plus 1 keep add add", 41, 126);
        UpAndDown x = Due.of(GREAT + "doing plus 1 keep plus 1 back;");
        DUE.is("II: a go keeps nothing of the go ahead of it", x.after(41, 2), 43);
    }

    private static void wordsOfTheDoing() {
        UpAndDown x = Due.of(GREAT + "doing times 0 up up up up up up up up up up plus 99;");
        DUE.is("6: the first of 12", x.word(0, 0), 12);
        DUE.is("6: its number, 0", x.word(0, 1), 0);
        DUE.is("6: one without a number", x.word(10, 1), -1);
        DUE.is("6: the last of 12", x.word(11, 0), 13);
        DUE.is("6: its number, 99", x.word(11, 1), 99);
        DUE.is("6: a 13th", x.word(12, 0), -2);
        DUE.is("6: one ahead of the first", x.word(-1, 0), -2);
        DUE.is("6: what 2", x.word(0, 2), -2);
        DUE.is("6: what -1", x.word(0, -1), -2);
        DUE.is("41: words", x.count(2), 12);
        UpAndDown y = Due.of(GREAT);
        DUE.is("6: none", y.word(0, 0), -2);
        DUE.is("7: none", y.turn(0, 0, 0), -2);
        DUE.is("41: no words", y.count(2), 0);
    }

    private static void turnBounds() {
        UpAndDown x = Due.of(GREAT + "doing up up up up up up up up up up up up;");
        DUE.is("7: the last word", x.turn(11, 13, 99), 1);
        DUE.is("7: a 13th word", x.turn(12, 13, 99), -2);
        DUE.is("7: the last word was turned", x.next(0), 99);
        DUE.is("7: the first word", x.turn(0, 14, 9), 1);
        DUE.is("7: the first word was turned", x.through(9129, 1), 12);
        int[] most = {99, 99, 9};
        for (int i = 0; i < 3; i++) {
            DUE.is("7: number 0", x.turn(1, 12 + i, 0), 1);
            DUE.is("7: the greatest number", x.turn(1, 12 + i, most[i]), 1);
            DUE.is("7: one more", x.turn(1, 12 + i, most[i] + 1), -2);
            DUE.is("7: one less than 0", x.turn(1, 12 + i, -1), -2);
            DUE.is("7: the greatest stays", x.word(1, 1), most[i]);
        }
        DUE.is("7: sort 0", x.turn(2, 0, 0), 1);
        DUE.is("7: sort 14", x.turn(2, 14, 0), 1);
        DUE.is("7: sort 15", x.turn(2, 15, 0), -2);
        DUE.is("7: sort -1", x.turn(2, -1, 0), -2);
        DUE.is("7: sort 14 stays", x.word(2, 0), 14);
        for (int base = 2; base <= 16; base++) {
            UpAndDown y = Due.of("table base " + base + " long 1;doing up;");
            DUE.is("7: out base", y.turn(0, 14, base), -2);
            DUE.is("7: out base less 1", y.turn(0, 14, base - 1), 1);
            DUE.is("7: out base less 1, done", y.next(base - 1), 0);
        }
    }

    private static void turnAnswers() {
        UpAndDown x = Due.of(GREAT + "doing down;");
        for (int sort = 0; sort < 15; sort++) {
            DUE.is("7: another one, sort " + sort, x.turn(0, sort, 0), sort == 0 ? 0 : 1);
            DUE.is("7: the same, sort " + sort, x.turn(0, sort, 0), 0);
            DUE.is("6: its sort " + sort, x.word(0, 0), sort);
            DUE.is("6: its number", x.word(0, 1), sort < 12 ? -1 : 0);
        }
        DUE.is("7: another number is another one", x.turn(0, 14, 1), 1);
        DUE.is("7: back to one without", x.turn(0, 0, 0), 1);
        DUE.is("7: a number of one without", x.turn(0, 0, 1), -2);
        DUE.is("7: the same", x.turn(0, 0, 0), 0);
    }

    /** All that was asked ahead of a turn is another behind it. */
    private static void turnFromNowOn() {
        UpAndDown x = Due.of("table base 10 long 2;doing plus 1;slip plus 5 for times 0;number 7;");
        askAll(x, 1, 100, 0, 1, 0);
        DUE.is("7: turn", x.turn(0, 12, 0), 1);
        askAll(x, 0, 1, 99, 100, 1);
        DUE.is("33: a slip from now on", x.slip(7, 0, 0), 12);
        DUE.is("7: turn back", x.turn(0, 13, 1), 1);
        askAll(x, 1, 100, 0, 1, 0);
        DUE.is("33: no slip from now on", x.slip(7, 0, 0), -2);
        DUE.is("41: lines stay", x.count(5), 4);
        DUE.is("41: words stay", x.count(2), 1);
    }

    private static void askAll(UpAndDown x, int next, int longest, int gardens, int into, int rests) {
        DUE.is("10: next of 0", x.next(0), next);
        DUE.is("12: after of 0", x.after(0, 1), next);
        DUE.is("14: the longest", x.rounds(2), longest);
        DUE.is("19: gardens", x.gardens(), gardens);
        DUE.is("21: from", x.from(0, -1), into);
        DUE.is("14: rests", x.rounds(1), rests);
        DUE.is("30: left", x.left(0, 1), longest);
        DUE.is("28: sure", x.sure(3, 1, 1), next == 0 ? 0 : 8);
        DUE.is("39: evening", x.evening(0, 100, 0), 1);
    }

    private static void sizesAndFigures() {
        DUE.is("8: the least", Due.of(ONE_BIT).size(), 2);
        DUE.is("8: the greatest", Due.of(GREAT).size(), 10000);
        UpAndDown x = Due.of(BYTE);
        int[] due = {-2, 1, 0, 0, 0, 0, 0, 1, 0, -2};
        for (int i = -1; i <= 8; i++) {
            DUE.is("9: figure " + i + " of 130", x.figure(130, i), due[i + 1]);
        }
        DUE.is("9: of the greatest", x.figure(255, 0), 1);
        DUE.is("9: of none", x.figure(256, 0), -2);
        UpAndDown y = Due.of(SIXTEEN);
        DUE.is("9: the only figure", y.figure(15, 0), 15);
        DUE.is("9: a second figure", y.figure(15, 1), -2);
        UpAndDown z = Due.of(GREAT);
        DUE.is("9: noughts ahead", z.figure(5, 0), 0);
        DUE.is("9: the last", z.figure(5, 3), 5);
        DUE.is("9: of the least", z.figure(0, 3), 0);
        DUE.is("9: of the greatest", z.figure(9999, 3), 9);
        DUE.is("9: a fifth", z.figure(9999, 4), -2);
        DUE.is("10: next of the greatest", z.next(9999), 9999);
        DUE.is("10: next of one more", z.next(10000), -2);
        DUE.is("10: next of one less than 0", z.next(-1), -2);
        DUE.is("10: next of the least there is", Due.of(ONE_BIT + "doing plus 1;").next(1), 0);
        DUE.is("10: next beyond it", Due.of(ONE_BIT + "doing plus 1;").next(2), -2);
    }

    private static void through() {
        UpAndDown x = Due.of(GREAT + "doing" + " plus 1".repeat(12) + ";");
        for (int i = 0; i <= 12; i++) {
            DUE.is("11: through " + i, x.through(9990, i), (9990 + i) % 10000);
        }
        DUE.is("11: through 13", x.through(9990, 13), -2);
        DUE.is("11: through -1", x.through(9990, -1), -2);
        DUE.is("11: of the greatest", x.through(9999, 0), 9999);
        DUE.is("11: of one more", x.through(10000, 0), -2);
        DUE.is("11: of one less than 0", x.through(-1, 12), -2);
    }

    private static void after() {
        UpAndDown x = Due.of(HALVES);
        DUE.is("12: 0 goes", x.after(8192, 0), 8192);
        DUE.is("12: 1 go", x.after(8192, 1), 4096);
        DUE.is("12: a go less than till the round", x.after(8192, 12), 2);
        DUE.is("12: just till the round", x.after(8192, 13), 1);
        DUE.is("12: a go more", x.after(8192, 14), 1);
        DUE.is("12: the most goes", x.after(8192, 1000000000), 1);
        DUE.is("12: beyond", x.after(8192, 1000000001), -2);
        DUE.is("12: below", x.after(8192, -1), -2);
        DUE.is("12: of one more", x.after(10000, 1), -2);
        DUE.is("12: of one less than 0", x.after(-1, 1), -2);
        UpAndDown y = Due.of(ROUND);
        DUE.is("12: a round less one", y.after(3, 9999), 2);
        DUE.is("12: a round", y.after(3, 10000), 3);
        DUE.is("12: a round and one", y.after(3, 10001), 4);
        DUE.is("12: the most goes on a round", y.after(3, 1000000000), 3);
        DUE.is("12: the most goes less one", y.after(3, 999999999), 2);
        UpAndDown z = Due.of(TWICE);
        DUE.is("12: the most goes, one till the round", z.after(1, 1000000000), 6);
        DUE.is("12: 5 goes: 2 4 8 6 2", z.after(1, 5), 2);
    }

    private static void ends(UpAndDown x, int number, int... due) {
        for (int what = 0; what < 4; what++) {
            DUE.is("13: ends of " + number + ", what " + what, x.ends(number, what), due[what]);
        }
        DUE.is("13: what 4", x.ends(number, 4), -2);
        DUE.is("13: what -1", x.ends(number, -1), -2);
    }

    private static void ends() {
        UpAndDown x = Due.of(HALVES);
        ends(x, 8192, 13, 1, 1, 1);
        ends(x, 0, 0, 1, 0, 0);
        ends(x, 1, 0, 1, 1, 1);
        ends(x, 2, 1, 1, 1, 1);
        ends(x, 9999, 0, 1, 9999, 9999);
        DUE.is("13: of one more", x.ends(10000, 0), -2);
        DUE.is("13: of one less than 0", x.ends(-1, 3), -2);
        ends(Due.of(ROUND), 9999, 0, 10000, 0, 9999);
        UpAndDown y = Due.of(TWICE);
        ends(y, 6, 0, 4, 2, 6);
        ends(y, 2, 0, 4, 2, 2);
        ends(y, 3, 1, 4, 2, 6);
        ends(Due.of(ONE_BIT + "doing plus 1;"), 1, 0, 2, 0, 1);
    }

    private static void rounds(String text, int... due) {
        UpAndDown x = Due.of(text);
        for (int what = 0; what < 4; what++) {
            DUE.is("14: " + text + ", what " + what, x.rounds(what), due[what]);
        }
        DUE.is("14: what 4", x.rounds(4), -2);
        DUE.is("14: what -1", x.rounds(-1), -2);
    }

    private static void rounds() {
        rounds(GREAT, 10000, 10000, 1, 0);
        rounds(ROUND, 1, 0, 10000, 0);
        rounds(HALVES, 5001, 5001, 1, 0);
        rounds(TO_NOUGHT, 1, 1, 1, 0);
        rounds(GREAT + "doing times 0 plus 99;", 1, 1, 1, 99);
        rounds(TWICE, 2, 1, 4, 2);
        rounds(ONE_BIT, 2, 2, 1, 0);
        rounds(ONE_BIT + "doing plus 1;", 1, 0, 2, 0);
        // Of two figures, those of like ones rest and all others go to and fro.
        rounds("table base 10 long 2;doing turn;", 55, 10, 2, 1);
    }

    private static void round(UpAndDown x, int i, int... due) {
        for (int what = 0; what < 4; what++) {
            DUE.is("15: round " + i + ", what " + what, x.round(i, what), due[what]);
        }
        DUE.is("15: round " + i + ", what 4", x.round(i, 4), -2);
        DUE.is("15: round " + i + ", what -1", x.round(i, -1), -2);
    }

    private static void round() {
        UpAndDown x = Due.of(HALVES);
        round(x, 0, 0, 1, 1, 0);
        round(x, 1, 1, 1, 14, 13);
        round(x, 2, 3, 1, 12, 11);
        round(x, 5000, 9999, 1, 1, 0);
        round(x, 5001, -1, -1, -1, -1);
        round(x, -1, -1, -1, -1, -1);
        round(Due.of(ROUND), 0, 0, 10000, 10000, 0);
        round(Due.of(ROUND), 1, -1, -1, -1, -1);
        round(Due.of(TO_NOUGHT), 0, 0, 1, 10000, 1);
        round(Due.of(TWICE), 1, 2, 4, 8, 1);
        round(Due.of(ONE_BIT + "doing times 0 plus 1;"), 0, 1, 1, 2, 1);
        round(Due.of(GREAT), 9999, 9999, 1, 1, 0);
        round(Due.of(GREAT), 10000, -1, -1, -1, -1);
    }

    private static void on() {
        UpAndDown x = Due.of(ROUND);
        DUE.is("16: the least", x.on(0, 0), 0);
        DUE.is("16: its next", x.on(0, 1), 1);
        DUE.is("16: the last", x.on(0, 9999), 9999);
        DUE.is("16: one more", x.on(0, 10000), -1);
        DUE.is("16: one less than 0", x.on(0, -1), -1);
        DUE.is("16: no second round", x.on(1, 0), -1);
        UpAndDown y = Due.of(TWICE);
        int[] due = {-1, 2, 4, 8, 6, -1};
        for (int k = -1; k <= 4; k++) {
            DUE.is("16: number " + k, y.on(1, k), due[k + 1]);
        }
        DUE.is("16: a rest", y.on(0, 0), 0);
        DUE.is("16: a rest has one", y.on(0, 1), -1);
        DUE.is("16: no third round", y.on(2, 0), -1);
        DUE.is("16: no round -1", y.on(-1, 0), -1);
    }

    private static void most(String text, int... due) {
        UpAndDown x = Due.of(text);
        for (int what = 0; what < 3; what++) {
            DUE.is("17: " + text + ", what " + what, x.most(what), due[what]);
        }
        DUE.is("17: what 3", x.most(3), -2);
        DUE.is("17: what -1", x.most(-1), -2);
    }

    private static void most() {
        most(HALVES, 13, 8192, 1);
        most(ROUND, 0, 0, 10000);
        most(GREAT, 0, 0, 10000);
        most(TO_NOUGHT, 1, 1, 9999);
        most(GREAT + "doing times 0 plus 1;", 1, 0, 9999);
        most(TWICE, 1, 1, 5);
        most(ONE_BIT + "doing times 0;", 1, 1, 1);
    }

    private static void take() {
        UpAndDown x = Due.of(HALVES);
        int[] due = {-2, 5001, 2500, 1250, 625};
        for (int n = -1; n <= 3; n++) {
            DUE.is("18: take " + n, x.take(n), due[n + 1]);
        }
        DUE.is("18: take 12", x.take(12), 1);
        DUE.is("18: take 13", x.take(13), 1);
        DUE.is("18: take 14", x.take(14), 0);
        DUE.is("18: take many", x.take(Integer.MAX_VALUE), 0);
        DUE.is("18: all on rounds", Due.of(ROUND).take(0), 10000);
        DUE.is("18: all but one", Due.of(TO_NOUGHT).take(1), 9999);
    }

    private static void gardens() {
        UpAndDown x = Due.of(HALVES);
        DUE.is("19: gardens", x.gardens(), 2500);
        DUE.is("20: the first", x.garden(0), 5000);
        DUE.is("20: the second", x.garden(1), 5002);
        DUE.is("20: the last", x.garden(2499), 9998);
        DUE.is("20: not so many", x.garden(2500), -1);
        DUE.is("20: below", x.garden(-1), -1);
        UpAndDown y = Due.of(TO_NOUGHT);
        DUE.is("19: all but one", y.gardens(), 9999);
        DUE.is("20: the first", y.garden(0), 1);
        DUE.is("20: the last", y.garden(9998), 9999);
        DUE.is("20: not so many", y.garden(9999), -1);
        UpAndDown z = Due.of(ROUND);
        DUE.is("19: none", z.gardens(), 0);
        DUE.is("20: none", z.garden(0), -1);
        UpAndDown one = Due.of(ONE_BIT + "doing times 0 plus 1;");
        DUE.is("19: one, 0", one.gardens(), 1);
        DUE.is("20: one, 0", one.garden(0), 0);
    }

    private static void from() {
        UpAndDown x = Due.of(HALVES);
        DUE.is("21: itself and its double", x.from(1, -1), 2);
        DUE.is("21: the first", x.from(1, 0), 1);
        DUE.is("21: the last", x.from(1, 1), 2);
        DUE.is("21: not so many", x.from(1, 2), -1);
        DUE.is("21: what is less than NONE", x.from(1, -2), -2);
        DUE.is("21: of a garden", x.from(5000, -1), 0);
        DUE.is("21: of a garden, the first", x.from(5000, 0), -1);
        DUE.is("21: of the greatest", x.from(9999, 0), 9999);
        DUE.is("21: of one more", x.from(10000, -1), -2);
        DUE.is("21: of one less than 0", x.from(-1, -1), -2);
        UpAndDown y = Due.of(TO_NOUGHT);
        DUE.is("21: all", y.from(0, -1), 10000);
        DUE.is("21: the first of all", y.from(0, 0), 0);
        DUE.is("21: the last of all", y.from(0, 9999), 9999);
        DUE.is("21: one more than all", y.from(0, 10000), -1);
        DUE.is("21: none to the greatest", y.from(9999, -1), 0);
    }

    private static void back() {
        UpAndDown x = Due.of(HALVES);
        for (int n = 0; n <= 13; n++) {
            DUE.is("22: back " + n, x.back(1, n), 1);
        }
        DUE.is("22: back 14", x.back(1, 14), 0);
        DUE.is("22: back 200", x.back(1, 200), 0);
        DUE.is("22: back 201", x.back(1, 201), -2);
        DUE.is("22: back -1", x.back(1, -1), -2);
        DUE.is("22: of one more", x.back(10000, 0), -2);
        DUE.is("22: of one less than 0", x.back(-1, 0), -2);
        UpAndDown y = Due.of(ROUND);
        DUE.is("22: just 200 of a long round", y.back(9999, 200), 1);
        DUE.is("22: 201 of a long round", y.back(9999, 201), -2);
        UpAndDown z = Due.of(TO_NOUGHT);
        DUE.is("22: all but itself", z.back(0, 1), 9999);
        DUE.is("22: in no more goes", z.back(0, 2), 0);
        DUE.is("22: of a garden", z.back(5, 1), 0);
        DUE.is("22: of a garden in no goes", z.back(5, 0), 1);
    }

    /** Not in fewer: a number is not counted again when the round comes back to it. */
    private static void backOnRounds() {
        UpAndDown x = Due.of("table base 10 long 2;doing plus 1;");
        DUE.is("22: a round less one", x.back(5, 99), 1);
        DUE.is("22: a round, and not in fewer", x.back(5, 100), 0);
        DUE.is("22: a round and one", x.back(5, 101), 0);
        DUE.is("22: two rounds", x.back(5, 200), 0);
        UpAndDown y = Due.of("table base 2 long 1;doing plus 1;");
        DUE.is("22: to and fro", y.back(0, 1), 1);
        DUE.is("22: to and fro, again", y.back(0, 2), 0);
        DUE.is("22: a rest, and not in fewer", Due.of(ONE_BIT).back(0, 1), 0);
        UpAndDown z = Due.of(TWICE);
        int[] due = {1, 2, 2, 2, 1, 0};
        for (int n = 0; n < due.length; n++) {
            DUE.is("22: back of 2 in " + n, z.back(2, n), due[n]);
        }
    }

    private static void meet() {
        UpAndDown x = Due.of(HALVES);
        DUE.is("23: the same", x.meet(8192, 8192), 0);
        DUE.is("23: at the last of the goes", x.meet(8192, 1), 13);
        DUE.is("23: at the last of the goes", x.meet(1, 8192), 13);
        DUE.is("23: one behind the other", x.meet(8192, 4096), 13);
        DUE.is("23: behind one", x.meet(2, 1), 1);
        DUE.is("23: never", x.meet(0, 9999), -1);
        DUE.is("23: never", x.meet(8192, 3), -1);
        DUE.is("23: of one more", x.meet(10000, 0), -2);
        DUE.is("23: of one more", x.meet(0, 10000), -2);
        DUE.is("23: of one less than 0", x.meet(-1, 0), -2);
        DUE.is("23: of one less than 0", x.meet(0, -1), -2);
        UpAndDown y = Due.of(ROUND);
        DUE.is("23: on one round, never", y.meet(0, 9999), -1);
        DUE.is("23: on one round, the same", y.meet(9999, 9999), 0);
        UpAndDown z = Due.of(TWICE);
        DUE.is("23: 1 and 6 come to 2", z.meet(1, 6), 1);
        DUE.is("23: 1 and 2 come to one round, never the same", z.meet(1, 2), -1);
    }

    private static void join(UpAndDown x, int a, int b, int... due) {
        for (int what = 0; what < 3; what++) {
            DUE.is("24: join " + a + " " + b + ", what " + what, x.join(a, b, what), due[what]);
        }
        DUE.is("24: what 3", x.join(a, b, 3), -2);
        DUE.is("24: what -1", x.join(a, b, -1), -2);
    }

    private static void join() {
        UpAndDown x = Due.of(HALVES);
        join(x, 8192, 8192, 8192, 0, 0);
        join(x, 8192, 1, 1, 13, 0);
        join(x, 1, 8192, 1, 0, 13);
        join(x, 8192, 4096, 4096, 1, 0);
        join(x, 0, 1, -1, -1, -1);
        join(x, 9999, 9999, 9999, 0, 0);
        DUE.is("24: of one more", x.join(10000, 0, 0), -2);
        DUE.is("24: of one more", x.join(0, 10000, 0), -2);
        DUE.is("24: of one less than 0", x.join(-1, 0, 0), -2);
        DUE.is("24: of one less than 0", x.join(0, -1, 0), -2);
        UpAndDown y = Due.of(ROUND);
        join(y, 0, 1, 0, 0, 9999);
        join(y, 1, 0, 1, 0, 1);
        UpAndDown z = Due.of(TWICE);
        // 1 comes to 2 at once; 7 to 4, 8, 6 and then 2.
        join(z, 1, 7, 2, 1, 4);
        join(z, 1, 6, 2, 1, 1);
        join(z, 2, 1, 2, 0, 1);
        join(z, 5, 2, -1, -1, -1);
    }

    /** No doing: each number is its own next. */
    private static void withoutWords() {
        UpAndDown x = Due.of(GREAT);
        DUE.is("10: next", x.next(9999), 9999);
        DUE.is("11: through 0", x.through(9999, 0), 9999);
        DUE.is("11: through 1", x.through(9999, 1), -2);
        DUE.is("12: after", x.after(9999, 1000000000), 9999);
        DUE.is("13: ends", x.ends(9999, 0), 0);
        DUE.is("19: gardens", x.gardens(), 0);
        DUE.is("21: from", x.from(9999, 0), 9999);
        DUE.is("23: meet", x.meet(1, 2), -1);
        DUE.is("33: slip", x.slip(1, 0, 0), -2);
        DUE.is("34: fits", x.fits(1, 1), 0);
        DUE.is("35: which", x.which(1, 1), -1);
    }
}
