import java.util.ArrayList;
import java.util.List;
import java.util.function.Supplier;
import java.util.function.ToLongFunction;

/** Objects that have something of everything, and calls behind which all of it must be as it was. */
final class Rich {
    /** All numbers stand on one round of a hundred: no gardens, and a row of a slot counts on by one. */
    private static final String COUNTING = "table base 10 long 2;doing plus 1;slip plus 2 for plus 1;number 7;number 42;";

    private Rich() {
    }

    /** With a fault of the latest table, a tape begun, two images of three, and three rows of four. */
    static UpAndDown make() {
        UpAndDown x = Due.of("table base 3 long 2;doing turn;number 5;");
        x.keep(0);
        Due.table(x, COUNTING);
        x.keep(1);
        giveRest(x);
        return x;
    }

    /** The same without a table. */
    static UpAndDown makeWithoutTable() {
        UpAndDown x = make();
        Due.table(x, " ");
        giveRest(x);
        return x;
    }

    private static void giveRest(UpAndDown x) {
        Due.table(x, "table base 17 long 1;");
        Due.feed(x, "table base");
        fill(x, 0, 1, 5, 6, 7);
        fill(x, 1, 3, 98, 99, 0, 1);
        x.row(2, 1, 0);
    }

    static void fill(UpAndDown x, int slot, int width, long... values) {
        x.row(slot, width, values.length);
        for (int i = 0; i < values.length; i++) {
            x.write(slot, i, values[i]);
        }
    }

    /** Answers that tell of tape, fault, table, doing, slips, told numbers and rows. */
    static List<Long> seen(UpAndDown x) {
        List<Long> seen = new ArrayList<>();
        for (int what = 0; what < 8; what++) {
            seen.add((long) x.count(what));
        }
        seen.add((long) x.fault(0));
        seen.add((long) x.fault(1));
        for (int i = 0; i < x.count(2); i++) {
            seen.add((long) x.word(i, 0));
            seen.add((long) x.word(i, 1));
        }
        for (int i = 0; i < x.count(4); i++) {
            seen.add((long) x.told(i));
        }
        int[] some = {0, 7, 99};
        for (int y : some) {
            seen.add((long) x.next(y));
            seen.add((long) x.ends(y, 1));
            seen.add((long) x.slip(y, 0, 0));
        }
        for (int slot = 0; slot < 4; slot++) {
            seen.add((long) x.judge(slot));
        }
        seen.add((long) x.sure(3, 1, 0));
        return seen;
    }

    /** What each image has; the table is another one then. */
    private static List<Long> images(UpAndDown x) {
        List<Long> seen = new ArrayList<>();
        for (int k = 0; k < 3; k++) {
            seen.add((long) x.restore(k));
            seen.addAll(seen(x));
        }
        return seen;
    }

    /** The answer is due and nothing changes, the images neither. */
    static void leaves(Due due, Supplier<UpAndDown> maker, String label, long want, ToLongFunction<UpAndDown> call) {
        UpAndDown x = maker.get();
        List<Long> before = seen(x);
        due.is(label, call.applyAsLong(x), want);
        due.is(label + ", all stays", seen(x).equals(before) ? 1 : 0, 1);
        due.is(label + ", the images stay", images(x).equals(images(maker.get())) ? 1 : 0, 1);
    }
}
