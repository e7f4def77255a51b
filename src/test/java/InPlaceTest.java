import java.util.ArrayList;
import java.util.List;

/** Promises 4, 7 and 44: a table in place of another answers as on a new object, whatever was asked ahead of it. */
public final class InPlaceTest {
    private static final Due DUE = new Due();
    private static final String[] TABLES = {
        "table base 10 long 4;doing half;number 8192;number 4096;number 9999;slip up for half;slip down for half;",
        "table base 10 long 2;doing down keep up less;number 99;slip add for less;",
        "table base 2 long 8;doing plus 1;",
        "table base 16 long 2;doing square turn;number 255;slip turn for square;slip square for turn;",
        "table base 2 long 1;doing times 0 plus 1;number 0;",
        "table base 3 long 4;doing down;slip up for turn;slip turn for down;number 80;number 0;",
        "table base 10 long 4;doing times 3 plus 7;number 10;",
        "table base 10 long 1;doing times 2;number 8;",
    };

    public static void main(String[] args) {
        for (String ahead : TABLES) {
            for (String text : TABLES) {
                inPlace(ahead, text);
                restored(ahead, text);
                behindAFault(ahead, text);
            }
        }
        for (String text : TABLES) {
            turned(text);
        }
        DUE.end("InPlaceTest");
    }

    private static void same(String label, List<Integer> got, List<Integer> want) {
        DUE.is(label + ", answers", got.size(), want.size());
        for (int i = 0; i < got.size() && i < want.size(); i++) {
            DUE.is(label + ", answer " + i, got.get(i), want.get(i));
        }
    }

    private static void inPlace(String ahead, String text) {
        UpAndDown x = Due.of(ahead);
        answers(x);
        Due.table(x, text);
        same("4: " + text + " in place of " + ahead, answers(x), answers(Due.of(text)));
    }

    private static void restored(String ahead, String text) {
        UpAndDown x = Due.of(text);
        x.keep(1);
        Due.table(x, ahead);
        answers(x);
        x.restore(1);
        same("44: " + text + " in place of " + ahead, answers(x), answers(Due.of(text)));
    }

    private static void behindAFault(String ahead, String text) {
        UpAndDown x = Due.of(ahead);
        Due.table(x, text + "doing up;?");
        same("4: " + ahead + " behind a fault of " + text, answers(x), answers(Due.of(ahead)));
    }

    private static void turned(String text) {
        UpAndDown x = Due.of(text);
        int sort = x.word(0, 0);
        int number = Math.max(0, x.word(0, 1));
        answers(x);
        x.turn(0, 13, 55);
        x.rounds(0);
        x.left(0, 3);
        x.turn(0, sort, number);
        same("7: turned there and back, " + text, answers(x), answers(Due.of(text)));
    }

    /** Some two hundred calls that change nothing. */
    private static List<Integer> answers(UpAndDown x) {
        List<Integer> all = new ArrayList<>();
        int size = x.size();
        int[] some = {0, 1, size / 2, size - 1, size};
        for (int what = 0; what < 8; what++) {
            all.add(x.count(what));
        }
        for (int number : some) {
            ways(all, x, number);
        }
        rounds(all, x);
        for (int crowd = 0; crowd < 4; crowd++) {
            crowds(all, x, crowd);
        }
        slips(all, x, size);
        for (int what = 0; what < 3; what++) {
            all.add(x.best(1, what));
            all.add(x.evening(7, 50, what));
        }
        return all;
    }

    private static void ways(List<Integer> all, UpAndDown x, int number) {
        all.add(x.next(number));
        all.add(x.through(number, 1));
        all.add(x.after(number, 1000000000));
        for (int what = 0; what < 4; what++) {
            all.add(x.ends(number, what));
        }
        all.add(x.figure(number, 0));
        all.add(x.from(number, -1));
        all.add(x.from(number, 0));
        all.add(x.back(number, 2));
        all.add(x.meet(number, 1));
        all.add(x.join(number, 0, 1));
        all.add(x.kind(number, 0));
        all.add(x.kind(number, 1));
        all.add(x.find(number, 0));
    }

    private static void rounds(List<Integer> all, UpAndDown x) {
        for (int what = 0; what < 4; what++) {
            all.add(x.rounds(what));
            all.add(x.round(0, what));
            all.add(x.round(1, what));
        }
        for (int i = 0; i < 3; i++) {
            all.add(x.on(1, i));
            all.add(x.most(i));
            all.add(x.take(i));
            all.add(x.garden(i));
            all.add(x.told(i));
            all.add(x.word(i, 0));
            all.add(x.word(i, 1));
        }
        int gardens = x.gardens();
        all.add(gardens);
        all.add(x.garden(gardens - 1));
        all.add(x.garden(gardens));
        all.add(x.kinds());
        all.add(x.odd());
    }

    private static void crowds(List<Integer> all, UpAndDown x, int crowd) {
        int[] goes = {0, 1, 3};
        for (int n : goes) {
            all.add(x.sure(crowd, n, 0));
            all.add(x.left(crowd, n));
            all.add(x.rest(crowd, n));
            all.add(x.out(crowd, n, 1));
        }
        all.add(x.fewest(crowd, 0));
    }

    private static void slips(List<Integer> all, UpAndDown x, int size) {
        for (int i = 0; i < 3; i++) {
            for (int slip = 0; slip < 3; slip++) {
                all.add(x.slip(size - 1, i, slip));
            }
        }
        int[] some = {0, 1, size - 1};
        for (int y : some) {
            all.add(x.fits(size - 1, y));
            all.add(x.which(size - 1, y));
        }
    }
}
