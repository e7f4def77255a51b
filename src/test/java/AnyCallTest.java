import java.util.Random;

/** Runs of 512 calls with any arguments: none may throw or change what it has no right to. */
public final class AnyCallTest {
    private static final Due DUE = new Due();
    private static final Random RANDOM = new Random(3);
    private static final int[] EDGES = {-2147483648, -1000000000, -3, -2, -1, 0, 0, 1, 1, 2, 2, 3, 4, 5, 8, 12, 15,
            16, 19, 20, 59, 60, 61, 99, 100, 101, 200, 201, 255, 9999, 10000, 1000000000, 2000000000, 2147483647};
    private static final String[] TEXTS = {"", "table", "table base 2 long 1;", "table base 2 long 8;doing plus 1;",
            "table base 10 long 2;doing down keep up less;number 42;slip add for less;",
            "table base 16 long 2;doing times 3 out 0 square;number 255;number 0;slip keep for square;",
            "table base 10 long 4;doing down keep up less;slip add for less;number 1;"};

    public static void main(String[] args) {
        for (int run = 0; run < 400; run++) {
            UpAndDown object = new UpAndDown();
            for (int i = 0; i < 512; i++) {
                if (below(24) == 0) {
                    Due.table(object, TEXTS[below(run % 40 == 0 ? TEXTS.length : TEXTS.length - 1)]);
                }
                int answer = call(object, below(46));
                DUE.is("an answer", answer >= -8 ? 1 : 0, 1);
            }
        }
        DUE.end("AnyCallTest");
    }

    private static int below(int n) {
        return RANDOM.nextInt(n);
    }

    private static int any() {
        return below(3) == 0 ? below(12) : EDGES[below(EDGES.length)];
    }

    private static int call(UpAndDown x, int which) {
        switch (which) {
            case 0: return x.feed(any(), any(), any(), any(), any());
            case 1: return x.end(any());
            case 2: return x.table();
            case 3: return x.fault(any());
            case 4: return x.word(any(), any());
            case 5: return x.turn(any(), any(), any());
            case 6: return x.size();
            case 7: return x.figure(any(), any());
            case 8: return x.next(any());
            case 9: return x.through(any(), any());
            case 10: return x.after(any(), any());
            case 11: return x.ends(any(), any());
            case 12: return x.rounds(any());
            case 13: return x.round(any(), any());
            case 14: return x.on(any(), any());
            case 15: return x.most(any());
            case 16: return x.take(any());
            case 17: return x.gardens();
            case 18: return x.garden(any());
            case 19: return x.from(any(), any());
            case 20: return x.back(any(), any());
            case 21: return x.meet(any(), any());
            case 22: return x.join(any(), any(), any());
            default: return more(x, which);
        }
    }

    private static int more(UpAndDown x, int which) {
        switch (which) {
            case 23: return x.kinds();
            case 24: return x.kind(any(), any());
            case 25: return x.odd();
            case 26: return x.sure(any(), any(), any());
            case 27: return x.fewest(any(), any());
            case 28: return x.left(any(), any());
            case 29: return x.rest(any(), any());
            case 30: return x.out(any(), any(), any());
            case 31: return x.slip(any(), any(), any());
            case 32: return x.fits(any(), any());
            case 33: return x.which(any(), any());
            case 34: return x.find(any(), any());
            case 35: return x.found(any(), any(), any());
            case 36: return x.best(any(), any());
            case 37: return x.evening(any(), any(), any());
            case 38: return x.judge(any());
            case 39: return x.count(any());
            case 40: return x.told(any());
            case 41: return x.keep(any());
            case 42: return x.restore(any());
            case 43: return x.row(any(), any(), any());
            case 44: return x.write(any(), any(), RANDOM.nextLong() >> below(64));
            default: return x.paste(any(), any(), any(), any(), any());
        }
    }
}
