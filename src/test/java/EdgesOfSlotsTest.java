import java.util.function.ToLongFunction;

/** Promises 40 to 47, sentence by sentence, and the 512 calls of an object. */
public final class EdgesOfSlotsTest {
    private static final Due DUE = new Due();
    private static final String GREAT = "table base 10 long 4;";
    /** judge then tells how far a row counts on. */
    private static final String COUNTING = "table base 10 long 2;doing plus 1;";

    public static void main(String[] args) {
        judgeFirst();
        judgeFarther();
        judgeRefused();
        counts();
        countSlots();
        told();
        keepAndRestore();
        imagesStay();
        imagesOfNone();
        rowBounds();
        rowInPlace();
        writes();
        cuts();
        pasteRows();
        pasteOnItself();
        pasteBounds();
        pasteAnswersInOrder();
        lastCall();
        DUE.end("EdgesOfSlotsTest");
    }

    private static void judges(String label, String text, int due, int width, long... values) {
        UpAndDown x = Due.of(text);
        Rich.fill(x, 0, width, values);
        DUE.is("40: " + label, x.judge(0), due);
    }

    private static void judgeFirst() {
        judges("no numbers", COUNTING, 0, 3);
        judges("the least", COUNTING, 1, 3, 0);
        judges("the greatest", COUNTING, 1, 3, 99);
        judges("one more is no number", COUNTING, 0, 3, 100);
        judges("one less than 0 is no number", COUNTING, 0, 3, -1);
        judges("the greatest of the greatest size", GREAT, 1, 1, 9999);
        judges("10,000 is no number", GREAT, 0, 1, 10000);
        judges("a number of eight bytes that four would cut", COUNTING, 0, 3, 1L << 32);
        judges("the greatest of eight bytes", COUNTING, 0, 3, Long.MAX_VALUE);
        judges("the least of eight bytes", COUNTING, 0, 3, Long.MIN_VALUE);
    }

    private static void judgeFarther() {
        judges("the last is right", COUNTING, 3, 0, 98, 99, 0);
        judges("the last is wrong", COUNTING, 2, 0, 98, 99, 1);
        judges("the last is no number", COUNTING, 2, 0, 98, 99, 100);
        judges("the second is wrong, the others go on", COUNTING, 1, 0, 5, 7, 8, 9);
        judges("the first is wrong, the others go on", COUNTING, 0, 1, 100, 1, 2, 3);
        judges("the second, cut it would be right", COUNTING, 1, 3, 5, 6 + (1L << 32));
        judges("the same again", COUNTING, 1, 2, 5, 5);
        judges("without words, the same again", GREAT, 3, 2, 5, 5, 5);
        long[] most = new long[60];
        for (int i = 0; i < 60; i++) {
            most[i] = (70 + i) % 100;
        }
        judges("sixty", COUNTING, 60, 1, most);
        most[59] = 70;
        judges("sixty, the last wrong", COUNTING, 59, 1, most);
    }

    private static void judgeRefused() {
        UpAndDown x = Due.of(COUNTING);
        for (int slot = 0; slot < 4; slot++) {
            DUE.is("40: it has nothing", x.judge(slot), -6);
            x.row(slot, 0, 1);
            DUE.is("40: it has a row", x.judge(slot), 1);
        }
        DUE.is("40: slot 4", x.judge(4), -2);
        DUE.is("40: slot -1", x.judge(-1), -2);
        UpAndDown y = new UpAndDown();
        DUE.is("40: no table, and it has nothing", y.judge(0), -2);
        y.row(0, 0, 1);
        DUE.is("40: no table", y.judge(0), -2);
        DUE.is("40: no table, slot 4", y.judge(4), -2);
    }

    private static void counts(String label, UpAndDown x, int... due) {
        for (int what = 0; what < 8; what++) {
            DUE.is("41: " + label + ", count " + what, x.count(what), due[what]);
        }
        DUE.is("41: count 8", x.count(8), -1);
        DUE.is("41: count -1", x.count(-1), -1);
    }

    private static void counts() {
        counts("of a new object", new UpAndDown(), 0, 0, 0, 0, 0, 0, 0, 0);
        counts("of the least table", Due.of("table base 2 long 1;"), 2, 1, 0, 0, 0, 1, 0, 0);
        counts("of the longest", Due.of("table base 2 long 8;"), 2, 8, 0, 0, 0, 1, 0, 0);
        counts("of the greatest base", Due.of("table base 16 long 3;"), 16, 3, 0, 0, 0, 1, 0, 0);
        UpAndDown x = Due.of(GREAT + "doing" + " up".repeat(12) + ";" + "slip up for up;".repeat(6) + "number 1;".repeat(20));
        for (int i = 0; i < 40; i++) {
            x.feed(0, 0, 0, 0, 0);
        }
        for (int slot = 0; slot < 4; slot++) {
            x.row(slot, 0, 0);
        }
        counts("of the most", x, 10, 4, 12, 6, 20, 28, 800, 4);
    }

    private static void countSlots() {
        UpAndDown x = new UpAndDown();
        DUE.is("41: no rows", x.count(7), 0);
        x.row(3, 3, 0);
        DUE.is("41: a row without numbers", x.count(7), 1);
        x.row(3, 0, 60);
        DUE.is("41: in place of another", x.count(7), 1);
        x.row(0, 0, 61);
        DUE.is("41: a row refused", x.count(7), 1);
        x.row(0, 0, -1);
        DUE.is("41: a row refused", x.count(7), 1);
        x.row(0, 0, 60);
        DUE.is("41: two rows", x.count(7), 2);
    }

    private static void told() {
        UpAndDown x = Due.of(GREAT + "number 9999;number 0;" + "number 5;".repeat(17) + "number 8;");
        DUE.is("42: the first", x.told(0), 9999);
        DUE.is("42: the second", x.told(1), 0);
        DUE.is("42: the last of 20", x.told(19), 8);
        DUE.is("42: a 21st", x.told(20), -1);
        DUE.is("42: ahead of the first", x.told(-1), -1);
        DUE.is("42: of none", Due.of(GREAT).told(0), -1);
        DUE.is("42: no table", new UpAndDown().told(0), -1);
    }

    private static void keepAndRestore() {
        UpAndDown x = Due.of(COUNTING + "number 3;slip plus 7 for plus 1;");
        for (int k = 0; k < 3; k++) {
            DUE.is("44: it has nothing", x.restore(k), -6);
            DUE.is("43: keep", x.keep(k), 0);
            DUE.is("7: turn", x.turn(0, 13, 50 + k), 1);
        }
        DUE.is("43: no image 3", x.keep(3), -2);
        DUE.is("43: no image -1", x.keep(-1), -2);
        DUE.is("44: no image 3", x.restore(3), -2);
        DUE.is("44: no image -1", x.restore(-1), -2);
        Due.table(x, "table base 2 long 3;doing turn;number 7;");
        int[] next = {1, 50, 51};
        for (int k = 2; k >= 0; k--) {
            DUE.is("44: restore", x.restore(k), 0);
            DUE.is("44: its doing as it was then", x.next(0), next[k]);
            DUE.is("44: its size", x.size(), 100);
            DUE.is("44: its lines", x.count(5), 4);
            DUE.is("44: its told number", x.told(0), 3);
            DUE.is("44: its slip", x.slip(0, 0, 0), k == 0 ? 7 : -2);
            DUE.is("44: its rounds", x.ends(0, 1), k == 1 ? 2 : 100);
            DUE.is("44: its crowds", x.sure(3, 1, 1), (3 + next[k]) % 10);
        }
    }

    /** A turn or another table changes no image, and an image keeps what it is told last. */
    private static void imagesStay() {
        UpAndDown x = Due.of(COUNTING);
        x.keep(0);
        x.restore(0);
        DUE.is("7: turn", x.turn(0, 13, 9), 1);
        DUE.is("44: restore", x.restore(0), 0);
        DUE.is("44: without the turn", x.next(0), 1);
        x.turn(0, 13, 9);
        DUE.is("43: keep in place of another", x.keep(0), 0);
        x.turn(0, 13, 8);
        DUE.is("44: restore", x.restore(0), 0);
        DUE.is("44: with the turn", x.next(0), 9);
        Due.feed(x, "table");
        Rich.fill(x, 0, 0, 5, 14, 23);
        DUE.is("44: restore again", x.restore(0), 0);
        DUE.is("44: the tape stays", x.count(6), 5);
        DUE.is("44: the slots stay", x.judge(0), 3);
        DUE.is("4: a fault", x.table(), -4);
        DUE.is("44: restore behind a fault", x.restore(0), 0);
        DUE.is("5: the fault stays", x.fault(0), 1);
        DUE.is("5: its place stays", x.fault(1), 5);
    }

    private static void imagesOfNone() {
        UpAndDown x = new UpAndDown();
        DUE.is("43: keep that there is no table", x.keep(2), 0);
        DUE.is("44: another image has nothing", x.restore(1), -6);
        Due.table(x, COUNTING + "number 1;");
        DUE.is("44: restore it", x.restore(2), 0);
        DUE.is("44: no table", x.size(), -2);
        DUE.is("44: no doing", x.word(0, 0), -2);
        DUE.is("44: no numbers", x.told(0), -1);
        DUE.is("44: no lines", x.count(5), 0);
    }

    private static void rowBounds() {
        UpAndDown x = Due.of(COUNTING);
        for (int slot = 0; slot < 4; slot++) {
            for (int width = 0; width < 4; width++) {
                DUE.is("45: 60 numbers", x.row(slot, width, 60), 0);
                DUE.is("45: the last of them", x.write(slot, 59, 1), 0);
                DUE.is("45: a 61st", x.write(slot, 60, 1), -7);
                DUE.is("45: no numbers", x.row(slot, width, 0), 0);
                DUE.is("45: the first of none", x.write(slot, 0, 1), -7);
            }
        }
        DUE.is("45: slot 4", x.row(4, 0, 0), -2);
        DUE.is("45: slot -1", x.row(-1, 0, 0), -2);
        DUE.is("45: width 4", x.row(0, 4, 0), -2);
        DUE.is("45: width -1", x.row(0, -1, 0), -2);
        DUE.is("45: n 61", x.row(0, 0, 61), -2);
        DUE.is("45: n -1", x.row(0, 0, -1), -3);
        DUE.is("45: slot 4, n -1", x.row(4, 0, -1), -2);
        DUE.is("45: width 4, n -1", x.row(0, 4, -1), -2);
    }

    /** Without words a row of one and the same number is right. */
    private static void rowInPlace() {
        UpAndDown x = Due.of(GREAT);
        Rich.fill(x, 0, 3, 7, 7, 7);
        DUE.is("45: 61, the slot stays", x.row(0, 0, 61), -2);
        DUE.is("40: it stays", x.judge(0), 3);
        DUE.is("45: -1, the slot stays", x.row(0, 0, -1), -3);
        DUE.is("40: it stays", x.judge(0), 3);
        x.write(0, 2, 1L << 40);
        DUE.is("46: its width stays", x.judge(0), 2);
        DUE.is("45: in place of another", x.row(0, 0, 5), 0);
        DUE.is("45: all 0", x.judge(0), 5);
        x.write(0, 4, 1L << 40);
        DUE.is("45: of another width", x.judge(0), 5);
        DUE.is("45: fewer", x.row(0, 0, 2), 0);
        DUE.is("45: fewer", x.write(0, 2, 1), -7);
        UpAndDown y = Due.of(COUNTING);
        Rich.fill(y, 0, 0, 1, 2, 3);
        DUE.is("45: one width and length, yet all 0", y.row(0, 0, 3), 0);
        DUE.is("40: 0 0 0", y.judge(0), 1);
        y.write(0, 1, 1);
        y.write(0, 2, 2);
        DUE.is("40: 0 1 2", y.judge(0), 3);
    }

    private static void writes() {
        UpAndDown x = Due.of(COUNTING);
        x.row(1, 0, 3);
        DUE.is("46: the first", x.write(1, 0, 97), 0);
        DUE.is("46: the second", x.write(1, 1, 98), 0);
        DUE.is("46: the last", x.write(1, 2, 99), 0);
        DUE.is("40: all three", x.judge(1), 3);
        DUE.is("46: one more", x.write(1, 3, 0), -7);
        DUE.is("46: one less", x.write(1, -1, 0), -7);
        DUE.is("40: they stay", x.judge(1), 3);
        DUE.is("46: it has nothing", x.write(0, 0, 0), -6);
        DUE.is("46: it has nothing, nor such a number", x.write(0, 60, 0), -6);
        DUE.is("46: slot 4", x.write(4, 0, 0), -2);
        DUE.is("46: slot -1", x.write(-1, 0, 0), -2);
    }

    /** Behind a cut a number is a NUMBER again or is none any more. */
    private static void cuts() {
        String text = "table base 2 long 8;";
        judges("46: a byte, 127", text, 1, 0, 127);
        judges("46: a byte, 128 is below 0", text, 0, 0, 128);
        judges("46: a byte, 255 is below 0", text, 0, 0, 255);
        judges("46: a byte, 256 is 0", text, 1, 0, 256);
        judges("46: a byte, -129 is 127", text, 1, 0, -129);
        judges("46: a byte, -128", text, 0, 0, -128);
        judges("46: a byte, -256 is 0", text, 1, 0, -256);
        judges("46: two bytes, 255", text, 1, 1, 255);
        judges("46: two bytes, 256", text, 0, 1, 256);
        judges("46: two bytes, 65,535 is below 0", text, 0, 1, 65535);
        judges("46: two bytes, 65,536 is 0", text, 1, 1, 65536);
        judges("46: two bytes, 65,791 is 255", text, 1, 1, 65791);
        judges("46: four bytes, 65,536", text, 0, 2, 65536);
        judges("46: four bytes, 2 to the 32 is 0", text, 1, 2, 1L << 32);
        judges("46: four bytes, 2 to the 32 less 1 is below 0", text, 0, 2, (1L << 32) - 1);
        judges("46: eight bytes, 2 to the 32", text, 0, 3, 1L << 32);
        judges("46: eight bytes, 255", text, 1, 3, 255);
    }

    private static UpAndDown threeRows() {
        UpAndDown x = Due.of(COUNTING);
        Rich.fill(x, 0, 1, 1, 2, 3, 4, 5);
        Rich.fill(x, 1, 1, 11, 12, 13);
        Rich.fill(x, 2, 2, 21, 22, 23);
        return x;
    }

    /** Only judge tells what a row has: each number is pasted behind the one that must stand ahead of it. */
    private static void row(UpAndDown x, String label, int slot, int width, long... due) {
        for (int i = 0; i < due.length; i++) {
            x.row(3, width, 2);
            x.write(3, 0, (due[i] + 99) % 100);
            x.paste(slot, i, 3, 1, 1);
            DUE.is(label + ", number " + i, x.judge(3), 2);
        }
    }

    private static void pasteRows() {
        UpAndDown x = threeRows();
        DUE.is("47: all of one's", x.paste(1, 0, 0, 0, 3), 0);
        row(x, "47: from the first on", 0, 1, 11, 12, 13, 4, 5);
        row(x, "47: the giver stays", 1, 1, 11, 12, 13);
        x = threeRows();
        DUE.is("47: to the last", x.paste(1, 0, 0, 2, 3), 0);
        row(x, "47: to the last", 0, 1, 1, 2, 11, 12, 13);
        x = threeRows();
        DUE.is("47: from the last", x.paste(0, 4, 1, 2, 1), 0);
        row(x, "47: from the last", 1, 1, 11, 12, 5);
        x = threeRows();
        DUE.is("47: from within", x.paste(0, 1, 1, 1, 2), 0);
        row(x, "47: from within", 1, 1, 11, 2, 3);
        row(x, "47: the giver stays", 0, 1, 1, 2, 3, 4, 5);
        x.row(0, 1, 60);
        x.row(1, 1, 60);
        x.write(0, 0, 8);
        x.write(0, 59, 7);
        DUE.is("47: sixty", x.paste(0, 0, 1, 0, 60), 0);
        DUE.is("47: the last of sixty to the first", x.paste(0, 59, 1, 1, 1), 0);
        DUE.is("47: and the first behind it", x.paste(0, 0, 1, 2, 1), 0);
        DUE.is("47: 7 and 8", x.paste(1, 1, 1, 0, 2), 0);
        DUE.is("47: 7 and 8", x.judge(1), 2);
        DUE.is("47: sixty, one more", x.paste(0, 0, 1, 0, 61), -7);
    }

    /** As they were: none of them is changed ahead of its own turn. */
    private static void pasteOnItself() {
        UpAndDown x = threeRows();
        DUE.is("47: upwards", x.paste(0, 0, 0, 1, 4), 0);
        row(x, "47: upwards", 0, 1, 1, 1, 2, 3, 4);
        x = threeRows();
        DUE.is("47: downwards", x.paste(0, 1, 0, 0, 4), 0);
        row(x, "47: downwards", 0, 1, 2, 3, 4, 5, 5);
        x = threeRows();
        DUE.is("47: in its own place", x.paste(0, 0, 0, 0, 5), 0);
        row(x, "47: in its own place", 0, 1, 1, 2, 3, 4, 5);
        DUE.is("47: one too far", x.paste(0, 0, 0, 1, 5), -7);
        row(x, "47: nothing happens", 0, 1, 1, 2, 3, 4, 5);
    }

    private static void pasteBounds() {
        UpAndDown x = threeRows();
        DUE.is("47: none, from behind the last", x.paste(0, 5, 1, 0, 0), 0);
        DUE.is("47: none, from farther", x.paste(0, 6, 1, 0, 0), -7);
        DUE.is("47: none, to behind the last", x.paste(0, 0, 1, 3, 0), 0);
        DUE.is("47: none, to farther", x.paste(0, 0, 1, 4, 0), -7);
        DUE.is("47: one from behind the last", x.paste(0, 5, 1, 0, 1), -7);
        DUE.is("47: one to behind the last", x.paste(0, 0, 1, 3, 1), -7);
        DUE.is("47: n below 0", x.paste(0, 0, 1, 0, -1), -7);
        DUE.is("47: n below 0, from farther on", x.paste(0, 1, 1, 1, -1), -7);
        DUE.is("47: a place below 0", x.paste(0, -1, 1, 0, 1), -7);
        DUE.is("47: a place below 0", x.paste(0, 0, 1, -1, 1), -7);
        DUE.is("47: more than the giver has", x.paste(1, 0, 0, 0, 4), -7);
        DUE.is("47: more than the taker has", x.paste(0, 0, 1, 0, 4), -7);
        row(x, "47: nothing happens", 0, 1, 1, 2, 3, 4, 5);
        row(x, "47: nothing happens", 1, 1, 11, 12, 13);
        x.row(3, 1, 0);
        DUE.is("47: none of none", x.paste(3, 0, 3, 0, 0), 0);
        DUE.is("47: one of none", x.paste(3, 0, 0, 0, 1), -7);
    }

    private static void pasteAnswersInOrder() {
        UpAndDown x = threeRows();
        DUE.is("47: no such slot", x.paste(4, 0, 0, 0, 1), -2);
        DUE.is("47: no such slot", x.paste(0, 0, 4, 0, 1), -2);
        DUE.is("47: no such slot", x.paste(-1, 0, 0, 0, 1), -2);
        DUE.is("47: no such slot", x.paste(0, 0, -1, 0, 1), -2);
        DUE.is("47: one has nothing", x.paste(3, 0, 0, 0, 1), -6);
        DUE.is("47: the other has nothing", x.paste(0, 0, 3, 0, 1), -6);
        DUE.is("47: not of one width", x.paste(0, 0, 2, 0, 1), -8);
        DUE.is("47: not of one width", x.paste(2, 0, 0, 0, 1), -8);
        row(x, "47: nothing happens", 0, 1, 1, 2, 3, 4, 5);
        row(x, "47: nothing happens", 2, 2, 21, 22, 23);
    }

    /** base 7 long 2, doing plus 1: two feeds and a table, and calls up to the 511th. */
    private static UpAndDown usedFor511(ToLongFunction<UpAndDown> call) {
        UpAndDown x = new UpAndDown();
        x.feed(0x7461626c, 0x65206261, 0x73652037, 0x206c6f6e, 0x6720323b);
        x.feed(0x646f696e, 0x6720706c, 0x75732031, 0x3b202020, 0x20202020);
        x.table();
        for (int i = 3; i < 511; i++) {
            call.applyAsLong(x);
        }
        return x;
    }

    private static void lastCall() {
        DUE.is("the 512th call: next", usedFor511(x -> x.next(5)).next(48), 0);
        DUE.is("the 512th call: ends", usedFor511(x -> x.keep(0)).ends(48, 1), 49);
        DUE.is("the 512th call: restore", usedFor511(x -> x.keep(2)).restore(2), 0);
        DUE.is("the 512th call: turn", usedFor511(x -> x.turn(0, 13, 2)).turn(0, 13, 3), 1);
        DUE.is("the 512th call: feed", usedFor511(x -> x.feed(0, 0, 0, 0, 0)).feed(0, 0, 0, 0, 0), -1);
        DUE.is("the 512th call: table", usedFor511(x -> x.table()).table(), 0);
        DUE.is("the 512th call: row", usedFor511(x -> x.row(3, 3, 60)).row(3, 3, 60), 0);
        DUE.is("the 512th call: write", usedFor511(x -> x.row(3, 3, 60)).write(3, 59, 1), 0);
        DUE.is("the 512th call: left", usedFor511(x -> x.left(0, 200)).left(0, 200), 49);
        DUE.is("the 512th call: best", usedFor511(x -> x.best(2, 0)).best(2, 0), 602);
        DUE.is("the 512th call: find", usedFor511(x -> x.find(48, 1)).find(48, 48), 0);
        DUE.is("the 512th call: evening", usedFor511(x -> x.evening(1, 100, 0)).evening(1, 100, 2), 100);
    }
}
