/** Promises 40 to 47: judging a row, counts, told numbers, images, and the rows of the slots. */
public final class SlotsTest {
    private static final Due DUE = new Due();
    private static final String KAPREKAR = "table base 10 long 4;doing down keep up less;";

    public static void main(String[] args) {
        judge();
        widths();
        counts();
        told();
        images();
        rows();
        writes();
        pastes();
        DUE.end("SlotsTest");
    }

    private static void fill(UpAndDown x, int slot, int width, long... values) {
        DUE.is("row", x.row(slot, width, values.length), 0);
        for (int i = 0; i < values.length; i++) {
            DUE.is("write", x.write(slot, i, values[i]), 0);
        }
    }

    private static void judges(String what, int due, int width, long... values) {
        UpAndDown x = Due.of(KAPREKAR);
        fill(x, 2, width, values);
        DUE.is(what, x.judge(2), due);
    }

    private static void judge() {
        judges("all right", 4, 1, 3524, 3087, 8352, 6174);
        judges("the last is wrong", 3, 1, 3524, 3087, 8352, 1);
        judges("the second is wrong", 1, 2, 3524, 3088, 8352, 6174);
        judges("the first is no number", 0, 2, 10000, 0, 0);
        judges("below", 0, 1, -1, 0);
        judges("far beyond", 0, 3, 1L << 40, 0);
        judges("far beyond, like a number when cut", 1, 3, 3524, 3087 + (1L << 32));
        judges("no numbers", 0, 1);
        judges("one", 1, 3, 9999);
        judges("at rest", 60, 1, new long[60]);
        UpAndDown x = Due.of(KAPREKAR);
        DUE.is("nothing", x.judge(0), -6);
        DUE.is("no such slot", x.judge(4), -2);
        DUE.is("no such slot", x.judge(-1), -2);
        DUE.is("no table", new UpAndDown().judge(0), -2);
    }

    /** What a width cuts is told by judge: a byte of 200 is no number, one of 100 is. */
    private static void widths() {
        judges("a byte", 1, 0, 100);
        judges("a byte below 0", 0, 0, 200);
        judges("a byte cut", 1, 0, 256 + 100);
        judges("two bytes", 1, 1, 9999);
        judges("two bytes cut", 1, 1, 65536 + 9999);
        judges("two bytes below 0", 0, 1, 65535);
        judges("four bytes", 0, 2, 65536 + 9999);
        judges("four bytes cut", 1, 2, (1L << 32) + 9999);
        judges("eight bytes", 0, 3, (1L << 32) + 9999);
    }

    private static void counts() {
        UpAndDown x = Due.of(KAPREKAR + "slip add for less;number 1;number 2;number 3;");
        Due.feed(x, "table");
        x.row(0, 0, 0);
        x.row(3, 0, 1);
        int[] due = {10, 4, 4, 1, 3, 6, 5, 2, -1};
        for (int what = 0; what < due.length; what++) {
            DUE.is("count " + what, x.count(what), due[what]);
        }
        DUE.is("count -1", x.count(-1), -1);
    }

    private static void told() {
        UpAndDown x = Due.of(KAPREKAR + "number 12;number 9999;number 0;number 12;");
        int[] due = {12, 9999, 0, 12, -1};
        for (int i = 0; i < due.length; i++) {
            DUE.is("told " + i, x.told(i), due[i]);
        }
        DUE.is("told -1", x.told(-1), -1);
        DUE.is("no table", new UpAndDown().told(0), -1);
    }

    private static void images() {
        UpAndDown x = new UpAndDown();
        DUE.is("nothing", x.restore(0), -6);
        DUE.is("no such", x.restore(3), -2);
        DUE.is("no such", x.restore(-1), -2);
        DUE.is("no such", x.keep(3), -2);
        DUE.is("no such", x.keep(-1), -2);
        DUE.is("keep none", x.keep(2), 0);
        Due.table(x, KAPREKAR + "number 5;slip add for less;");
        DUE.is("keep", x.keep(0), 0);
        DUE.is("turn", x.turn(3, 6, 0), 1);
        DUE.is("keep", x.keep(1), 0);
        DUE.is("next", x.next(3524), 7777);
        x.row(0, 0, 1);
        DUE.is("restore", x.restore(0), 0);
        DUE.is("next", x.next(3524), 3087);
        DUE.is("ends", x.ends(3524, 3), 6174);
        DUE.is("slots stay", x.count(7), 1);
        DUE.is("restore", x.restore(1), 0);
        DUE.is("next", x.next(3524), 7777);
        DUE.is("restore none", x.restore(2), 0);
        DUE.is("size", x.size(), -2);
        DUE.is("lines", x.count(5), 0);
        DUE.is("told", x.told(0), -1);
        Due.table(x, "table base 2 long 2;");
        DUE.is("restore", x.restore(0), 0);
        DUE.is("size", x.size(), 10000);
        DUE.is("told", x.told(0), 5);
        DUE.is("lines", x.count(5), 4);
        DUE.is("slip", x.slip(3524, 3, 0), 7777);
        DUE.is("turn", x.turn(0, 1, 0), 1);
        DUE.is("restore again", x.restore(0), 0);
        DUE.is("the image stayed", x.word(0, 0), 0);
        Due.table(x, "table");
        DUE.is("restore", x.restore(0), 0);
        DUE.is("the fault stays", x.fault(0), 1);
    }

    private static void rows() {
        UpAndDown x = Due.of("table base 10 long 1;");
        DUE.is("row", x.row(0, 0, 60), 0);
        DUE.is("row", x.row(3, 3, 0), 0);
        DUE.is("no such slot", x.row(4, 0, 1), -2);
        DUE.is("no such slot", x.row(-1, 0, 1), -2);
        DUE.is("no such width", x.row(0, 4, 1), -2);
        DUE.is("no such width", x.row(0, -1, 1), -2);
        DUE.is("too many", x.row(0, 0, 61), -2);
        DUE.is("below", x.row(0, 0, -1), -3);
        DUE.is("below, no such slot", x.row(4, 0, -1), -2);
        DUE.is("below, no such width", x.row(0, 4, -1), -2);
        DUE.is("the slot stays", x.judge(0), 60);
        x.write(0, 1, 9);
        DUE.is("written", x.judge(0), 1);
        DUE.is("in place of another", x.row(0, 0, 3), 0);
        DUE.is("all 0", x.judge(0), 3);
        DUE.is("slots", x.count(7), 2);
        UpAndDown y = Due.of(KAPREKAR);
        fill(y, 0, 1, 3524, 3087, 8352, 6174);
        DUE.is("in place of another", y.row(0, 1, 4), 0);
        DUE.is("all 0, which rests", y.judge(0), 4);
    }

    private static void writes() {
        UpAndDown x = Due.of("table base 10 long 1;");
        x.row(1, 2, 3);
        DUE.is("write", x.write(1, 2, 5), 0);
        DUE.is("beyond", x.write(1, 3, 5), -7);
        DUE.is("below", x.write(1, -1, 5), -7);
        DUE.is("nothing", x.write(0, 0, 5), -6);
        DUE.is("no such slot", x.write(4, 0, 5), -2);
        DUE.is("no such slot", x.write(-1, 0, 5), -2);
        DUE.is("written", x.judge(1), 2);
        x.row(1, 2, 0);
        DUE.is("of no numbers", x.write(1, 0, 5), -7);
    }

    /** The doing adds one, so that judge tells how far a row counts on. */
    private static void pastes() {
        UpAndDown x = Due.of("table base 10 long 2;doing plus 1;");
        fill(x, 0, 1, 1, 2, 3, 4, 5);
        fill(x, 1, 1, 9, 9, 9);
        x.row(2, 2, 5);
        DUE.is("no such slot", x.paste(4, 0, 0, 0, 1), -2);
        DUE.is("no such slot", x.paste(0, 0, -1, 0, 1), -2);
        DUE.is("nothing", x.paste(0, 0, 3, 0, 1), -6);
        DUE.is("nothing", x.paste(3, 0, 0, 0, 1), -6);
        DUE.is("nothing, ahead of width", x.paste(3, 0, 2, 0, 1), -6);
        DUE.is("other widths", x.paste(0, 0, 2, 0, 1), -8);
        DUE.is("other widths, ahead of places", x.paste(0, -1, 2, 0, 1), -8);
        int[][] bad = {{-1, 0, 1}, {0, -1, 1}, {0, 0, -1}, {0, 0, 4}, {3, 0, 3}, {0, 1, 3}, {6, 0, 0}, {0, 4, 0},
                {2147483647, 0, 1}, {1, 1, 2147483647}, {0, 2147483647, 0}};
        for (int[] row : bad) {
            DUE.is("beyond " + row[0] + " " + row[1] + " " + row[2], x.paste(0, row[0], 1, row[1], row[2]), -7);
        }
        DUE.is("nothing happened", x.judge(1), 1);
        DUE.is("none, behind the last", x.paste(0, 5, 1, 3, 0), 0);
        DUE.is("nothing happened", x.judge(1), 1);
        DUE.is("paste", x.paste(0, 1, 1, 0, 3), 0);
        DUE.is("2 3 4", x.judge(1), 3);
        DUE.is("onto itself, upwards", x.paste(0, 0, 0, 1, 4), 0);
        DUE.is("1 1 2 3 4", x.judge(0), 1);
        DUE.is("as they were", x.paste(0, 1, 1, 0, 3), 0);
        DUE.is("1 2 3", x.judge(1), 3);
        DUE.is("onto itself, downwards", x.paste(0, 1, 0, 0, 4), 0);
        DUE.is("1 2 3 4 4", x.judge(0), 4);
    }
}
