import java.util.List;
import java.util.Random;

/** Random tables and calls, each answer held against Naive's; the random numbers are always the same. */
public final class ModelTest {
    private static final Due DUE = new Due();
    private static final Random RANDOM = new Random(7);
    private static final String[] NAMES = {"down", "up", "turn", "keep", "back", "less", "add", "square", "cube",
            "sum", "half", "first", "times", "plus", "out"};

    private static UpAndDown object;
    private static Naive naive;
    private static String told;

    public static void main(String[] args) {
        for (int i = 0; i < 250; i++) {
            make(i < 230 ? 300 : 10000);
            int calls = naive.size <= 300 ? 300 : 30;
            for (int k = 0; k < calls; k++) {
                callOne();
            }
        }
        for (int i = 0; i < 8; i++) {
            make(30);
            bests();
        }
        DUE.end("ModelTest");
    }

    private static int below(int n) {
        return RANDOM.nextInt(n);
    }

    private static int[] word(int base) {
        int sort = below(15);
        int[] mosts = {100, 100, base};
        return new int[] {sort, sort < 12 ? 0 : below(mosts[sort - 12])};
    }

    private static String text(int[] word) {
        return word[0] < 12 ? " " + NAMES[word[0]] : " " + NAMES[word[0]] + " " + word[1];
    }

    private static void make(int mostSize) {
        int base = 2 + below(15);
        int length = 1 + below(8);
        while (Math.pow(base, length) > mostSize) {
            base = 2 + below(15);
            length = 1 + below(8);
        }
        naive = new Naive(base, length);
        StringBuilder text = new StringBuilder("table base " + base + " long " + length + ";");
        int words = below(8);
        for (int i = 0; i < words; i++) {
            int[] word = word(base);
            naive.doing.add(word);
            text.append(i == 0 ? "doing" : "").append(text(word)).append(i == words - 1 ? ";" : "");
        }
        for (int i = below(6); i > 0; i--) {
            naive.told.add(below(naive.size));
            text.append("number ").append(naive.told.get(naive.told.size() - 1)).append(";");
        }
        for (int i = below(7); i > 0; i--) {
            int[] meant = words > 0 && below(4) > 0 ? naive.doing.get(below(words)) : word(base);
            naive.slipped.add(word(base));
            naive.meant.add(meant);
            text.append("slip").append(text(naive.slipped.get(naive.slipped.size() - 1)));
            text.append(" for").append(text(meant)).append(";");
        }
        told = text.toString();
        object = Due.of(told);
    }

    private static void is(String call, int got, int want) {
        DUE.is(told + " " + call, got, want);
    }

    private static int number() {
        return below(naive.size);
    }

    private static int goes() {
        return below(3) == 0 ? below(201) : below(12);
    }

    private static void callOne() {
        switch (below(8)) {
            case 0: turn(); break;
            case 1: ways(); break;
            case 2: rounds(); break;
            case 3: intos(); break;
            case 4: pairs(); break;
            case 5: crowds(); break;
            case 6: slips(); break;
            default: others(); break;
        }
    }

    private static void turn() {
        if (naive.doing.isEmpty() || below(4) > 0) {
            return;
        }
        int i = below(naive.doing.size());
        int[] word = word(naive.base);
        int[] old = naive.doing.get(i);
        is("turn", object.turn(i, word[0], word[1]), old[0] == word[0] && old[1] == word[1] ? 0 : 1);
        naive.doing.set(i, word);
        naive.changed();
        told += "turn " + i + text(word) + ";";
    }

    private static void ways() {
        int x = number();
        int n = below(2) == 0 ? goes() : below(1000000001);
        is("next " + x, object.next(x), naive.next(x));
        is("after " + x + " " + n, object.after(x, n), naive.after(x, n));
        int words = below(naive.doing.size() + 1);
        is("through " + x, object.through(x, words), naive.go(naive.doing.subList(0, words), x));
        for (int what = 0; what < 4; what++) {
            is("ends " + x + " " + what, object.ends(x, what), naive.ends(x, what));
        }
        for (int i = 0; i < naive.length; i++) {
            is("figure", object.figure(x, i), Character.digit(naive.figures(x).charAt(i), naive.base));
        }
    }

    private static void rounds() {
        int i = below(naive.rounds(0) + 2) - 1;
        for (int what = 0; what < 4; what++) {
            is("rounds " + what, object.rounds(what), naive.rounds(what));
            is("round " + i + " " + what, object.round(i, what), naive.round(i, what));
        }
        int k = below(6) - 1;
        is("on " + i + " " + k, object.on(i, k), naive.on(i, k));
        for (int what = 0; what < 3; what++) {
            is("most " + what, object.most(what), naive.most(what));
        }
        int n = below(8);
        is("take " + n, object.take(n), naive.take(n));
    }

    private static void intos() {
        List<Integer> gardens = naive.gardens();
        int i = below(gardens.size() + 1);
        is("gardens", object.gardens(), gardens.size());
        is("garden " + i, object.garden(i), Naive.pick(gardens, i));
        int x = naive.next(number());
        List<Integer> into = naive.from(x);
        int k = below(into.size() + 1);
        is("from " + x, object.from(x, -1), into.size());
        is("from " + x + " " + k, object.from(x, k), Naive.pick(into, k));
        int n = goes();
        is("back " + x + " " + n, object.back(x, n), naive.back(x, n));
    }

    private static void pairs() {
        int x = number();
        int y = below(2) == 0 ? number() : naive.after(x, below(20));
        if (naive.size <= 300) {
            is("meet " + x + " " + y, object.meet(x, y), naive.meet(x, y));
        }
        for (int what = 0; what < 3; what++) {
            is("join " + x + " " + y + " " + what, object.join(x, y, what), naive.join(x, y, what));
        }
        is("kinds", object.kinds(), naive.kinds());
        is("kind " + x, object.kind(x, 0), naive.kind(x, 0));
        is("kind " + x, object.kind(x, 1), naive.kind(x, 1));
        is("odd", object.odd(), naive.odd());
    }

    private static void crowds() {
        int crowd = below(4);
        int n = goes();
        int place = below(naive.length);
        String call = " " + crowd + " " + n + " " + place;
        is("sure" + call, object.sure(crowd, n, place), naive.sure(crowd, n, place));
        is("left" + call, object.left(crowd, n), naive.behind(crowd, n).size());
        is("rest" + call, object.rest(crowd, n), naive.rest(crowd, n));
        int other = below(naive.size / naive.base);
        is("out" + call + " " + other, object.out(crowd, n, other), naive.out(crowd, n, other));
        if (naive.size <= 100) {
            is("fewest" + call, object.fewest(crowd, place), naive.fewest(crowd, place));
        }
    }

    private static void slips() {
        int x = number();
        int i = below(naive.doing.size() + 1);
        int slip = below(naive.slipped.size() + 1);
        int y = naive.slip(x, i, slip);
        is("slip " + x + " " + i + " " + slip, object.slip(x, i, slip), y);
        y = y < 0 ? number() : y;
        List<Integer> fits = naive.fits(x, y);
        is("fits " + x + " " + y, object.fits(x, y), fits.size());
        is("which " + x + " " + y, object.which(x, y), Naive.pick(fits, 0));
    }

    private static void others() {
        int x = number();
        int y = number();
        List<int[]> row = naive.find(x, y);
        is("find " + x + " " + y, object.find(x, y), row == null ? -1 : row.size());
        for (int i = 0; i < 4; i++) {
            is("found " + x + " " + y + " " + i, object.found(x, y, i),
                    row == null || i >= row.size() ? -1 : row.get(i)[0]);
        }
        int seed = below(2000000001);
        int n = 1 + below(100);
        for (int what = 0; what < 3; what++) {
            is("evening " + seed + " " + n + " " + what, object.evening(seed, n, what), naive.evening(seed, n, what));
        }
    }

    private static void bests() {
        for (int n = 1; n <= 2; n++) {
            for (int what = 0; what < 3; what++) {
                is("best " + n + " " + what, object.best(n, what), naive.best(n, what));
            }
        }
        is("next behind best", object.ends(0, 0), naive.ends(0, 0));
    }
}
