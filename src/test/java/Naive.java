import java.math.BigInteger;
import java.util.ArrayList;
import java.util.Arrays;
import java.util.Collections;
import java.util.HashMap;
import java.util.LinkedHashSet;
import java.util.List;
import java.util.Map;
import java.util.TreeMap;
import java.util.TreeSet;
import java.util.function.IntUnaryOperator;

/** The document's numbers told a second time, by texts and sets, slowly: what the class is held against. */
final class Naive {
    static final int NO_SUCH = -2;

    final int base;
    final int length;
    final int size;
    final List<int[]> doing = new ArrayList<>();
    final List<int[]> slipped = new ArrayList<>();
    final List<int[]> meant = new ArrayList<>();
    final List<Integer> told = new ArrayList<>();
    private int[] next;
    private TreeMap<Integer, List<Integer>> roundsByLeast;

    Naive(int base, int length) {
        this.base = base;
        this.length = length;
        this.size = BigInteger.valueOf(base).pow(length).intValueExact();
    }

    void changed() {
        next = null;
        roundsByLeast = null;
    }

    boolean isNumber(int x) {
        return x >= 0 && x < size;
    }

    String figures(int x) {
        StringBuilder made = new StringBuilder(Integer.toString(x, base));
        while (made.length() < length) {
            made.insert(0, '0');
        }
        return made.toString();
    }

    int number(String figures) {
        return figures.isEmpty() ? 0 : Integer.parseInt(figures, base);
    }

    String sorted(int x) {
        char[] signs = figures(x).toCharArray();
        Arrays.sort(signs);
        return new String(signs);
    }

    private static String turned(String text) {
        return new StringBuilder(text).reverse().toString();
    }

    private int powers(int x, int power) {
        BigInteger sum = BigInteger.ZERO;
        for (char sign : figures(x).toCharArray()) {
            sum = sum.add(BigInteger.valueOf(Character.digit(sign, base)).pow(power));
        }
        return sum.mod(BigInteger.valueOf(size)).intValueExact();
    }

    private int word(int[] word, int x, int kept) {
        String figures = figures(x);
        switch (word[0]) {
            case 0: return number(turned(sorted(x)));
            case 1: return number(sorted(x));
            case 2: return number(turned(figures));
            case 3: return x;
            case 4: return kept;
            case 5: return Math.max(x, kept) - Math.min(x, kept);
            case 6: return (x + kept) % size;
            case 7: return powers(x, 2);
            case 8: return powers(x, 3);
            case 9: return powers(x, 1);
            case 10: return (x & 1) == 0 ? x >> 1 : x;
            case 11: return number(figures.substring(1) + figures.charAt(0));
            case 12: return x * word[1] % size;
            case 13: return (x + word[1]) % size;
            default: return number(figures.replace(Integer.toString(word[1], base), ""));
        }
    }

    int go(List<int[]> words, int x) {
        int kept = x;
        int now = x;
        for (int[] word : words) {
            now = word(word, now, kept);
            kept = word[0] == 3 ? now : kept;
        }
        return now;
    }

    int next(int x) {
        if (next == null) {
            next = new int[size];
            for (int y = 0; y < size; y++) {
                next[y] = go(doing, y);
            }
        }
        return next[x];
    }

    /** The numbers of a way till it comes to one of its own again. */
    private static List<Integer> way(int x, IntUnaryOperator next) {
        LinkedHashSet<Integer> seen = new LinkedHashSet<>();
        for (int y = x; seen.add(y); ) {
            y = next.applyAsInt(y);
        }
        return new ArrayList<>(seen);
    }

    private static int tail(List<Integer> way, IntUnaryOperator next) {
        return way.indexOf(next.applyAsInt(way.get(way.size() - 1)));
    }

    List<Integer> way(int x) {
        return way(x, this::next);
    }

    int tail(int x) {
        return tail(way(x), this::next);
    }

    List<Integer> ring(int x) {
        List<Integer> way = way(x);
        return way.subList(tail(x), way.size());
    }

    int least(int x) {
        return Collections.min(ring(x));
    }

    int after(int x, int n) {
        List<Integer> way = way(x);
        if (n < way.size()) {
            return way.get(n);
        }
        int tail = tail(x);
        return way.get(tail + (n - tail) % (way.size() - tail));
    }

    int ends(int x, int what) {
        int[] all = {tail(x), ring(x).size(), least(x), ring(x).get(0)};
        return all[what];
    }

    /** Each round's least number, with all that come to it. */
    private TreeMap<Integer, List<Integer>> roundsByLeast() {
        if (roundsByLeast == null) {
            roundsByLeast = new TreeMap<>();
            for (int x = 0; x < size; x++) {
                roundsByLeast.computeIfAbsent(least(x), least -> new ArrayList<>()).add(x);
            }
        }
        return roundsByLeast;
    }

    int rounds(int what) {
        int rests = 0;
        int longest = 0;
        int first = -1;
        for (int least : roundsByLeast().keySet()) {
            int length = ring(least).size();
            rests += length == 1 ? 1 : 0;
            if (length > longest) {
                longest = length;
                first = least;
            }
        }
        int[] all = {roundsByLeast().size(), rests, longest, first};
        return all[what];
    }

    int round(int i, int what) {
        List<Integer> leasts = new ArrayList<>(roundsByLeast().keySet());
        if (i < 0 || i >= leasts.size()) {
            return -1;
        }
        List<Integer> comers = roundsByLeast().get(leasts.get(i));
        int most = 0;
        for (int x : comers) {
            most = Math.max(most, tail(x));
        }
        int[] all = {leasts.get(i), ring(leasts.get(i)).size(), comers.size(), most};
        return all[what];
    }

    int on(int i, int k) {
        int least = round(i, 0);
        return least < 0 || k < 0 || k >= ring(least).size() ? -1 : after(least, k);
    }

    int most(int what) {
        int most = 0;
        for (int x = 0; x < size; x++) {
            most = Math.max(most, tail(x));
        }
        if (what == 0) {
            return most;
        }
        for (int x = 0; what == 1; x++) {
            if (tail(x) == most) {
                return x;
            }
        }
        return take(most);
    }

    int take(int n) {
        int taking = 0;
        for (int x = 0; x < size; x++) {
            taking += tail(x) == n ? 1 : 0;
        }
        return taking;
    }

    List<Integer> gardens() {
        TreeSet<Integer> left = new TreeSet<>();
        for (int x = 0; x < size; x++) {
            left.add(x);
        }
        for (int x = 0; x < size; x++) {
            left.remove(next(x));
        }
        return new ArrayList<>(left);
    }

    List<Integer> from(int x) {
        List<Integer> into = new ArrayList<>();
        for (int y = 0; y < size; y++) {
            if (next(y) == x) {
                into.add(y);
            }
        }
        return into;
    }

    static int pick(List<Integer> list, int i) {
        return i >= 0 && i < list.size() ? list.get(i) : -1;
    }

    int back(int x, int n) {
        int coming = 0;
        for (int y = 0; y < size; y++) {
            coming += way(y).indexOf(x) == n ? 1 : 0;
        }
        return coming;
    }

    int meet(int x, int y) {
        for (int n = 0; n <= 2 * size; n++) {
            if (after(x, n) == after(y, n)) {
                return n;
            }
        }
        return -1;
    }

    int join(int x, int y, int what) {
        List<Integer> ofX = way(x);
        List<Integer> ofY = way(y);
        for (int it : ofX) {
            if (ofY.contains(it)) {
                int[] all = {it, ofX.indexOf(it), ofY.indexOf(it)};
                return all[what];
            }
        }
        return -1;
    }

    private Map<String, List<Integer>> kindsOf() {
        Map<String, List<Integer>> kinds = new HashMap<>();
        for (int x = 0; x < size; x++) {
            kinds.computeIfAbsent(sorted(x), figures -> new ArrayList<>()).add(x);
        }
        return kinds;
    }

    int kinds() {
        return kindsOf().size();
    }

    int kind(int x, int what) {
        List<Integer> kind = kindsOf().get(sorted(x));
        return what == 0 ? kind.get(0) : kind.size();
    }

    int odd() {
        Map<String, List<Integer>> kinds = kindsOf();
        for (int x = 0; x < size; x++) {
            if (next(x) != next(kinds.get(sorted(x)).get(0))) {
                return x;
            }
        }
        return -1;
    }

    private boolean isOf(int crowd, int x) {
        long unlike = figures(x).chars().distinct().count();
        return crowd == 0 || crowd == 1 && unlike > 1 || crowd == 2 && unlike == length
                || crowd == 3 && told.contains(x);
    }

    TreeSet<Integer> behind(int crowd, int n) {
        TreeSet<Integer> now = new TreeSet<>();
        for (int x = 0; x < size; x++) {
            if (isOf(crowd, x)) {
                now.add(after(x, n));
            }
        }
        return now;
    }

    int sure(int crowd, int n, int place) {
        TreeSet<Character> figures = new TreeSet<>();
        for (int x : behind(crowd, n)) {
            figures.add(figures(x).charAt(place));
        }
        return figures.size() == 1 ? Character.digit(figures.first(), base) : -1;
    }

    int fewest(int crowd, int place) {
        for (int n = 0; n <= 200; n++) {
            if (sure(crowd, n, place) != -1) {
                return n;
            }
        }
        return -1;
    }

    int rest(int crowd, int n) {
        int greatest = -1;
        TreeSet<Integer> now = behind(crowd, n);
        for (int m = 2; m <= 99; m++) {
            TreeSet<Integer> rests = new TreeSet<>();
            for (int x : now) {
                rests.add(x % m);
            }
            greatest = rests.size() == 1 ? m : greatest;
        }
        return greatest;
    }

    int out(int crowd, int n, int other) {
        int bits = 0;
        for (int x : behind(crowd, n)) {
            for (int i = 0; i < length; i++) {
                String figures = figures(x);
                if (number(figures.substring(0, i) + figures.substring(i + 1)) == other) {
                    bits |= 1 << Character.digit(figures.charAt(i), base);
                }
            }
        }
        return bits;
    }

    int slip(int x, int i, int slip) {
        if (!isNumber(x) || i < 0 || i >= doing.size() || slip < 0 || slip >= slipped.size()
                || !Arrays.equals(doing.get(i), meant.get(slip))) {
            return NO_SUCH;
        }
        List<int[]> words = new ArrayList<>(doing);
        words.set(i, slipped.get(slip));
        return go(words, x);
    }

    List<Integer> fits(int x, int y) {
        List<Integer> fits = new ArrayList<>();
        for (int i = 0; i < doing.size(); i++) {
            for (int slip = 0; slip < slipped.size(); slip++) {
                if (slip(x, i, slip) == y) {
                    fits.add(10 * i + slip);
                }
            }
        }
        return fits;
    }

    /** All rows of so many words, the least sorts first. */
    private static List<List<int[]>> rowsOf(int words) {
        List<List<int[]>> rows = new ArrayList<>();
        rows.add(new ArrayList<>());
        for (int i = 0; i < words; i++) {
            List<List<int[]>> longer = new ArrayList<>();
            for (List<int[]> row : rows) {
                for (int sort = 0; sort < 12; sort++) {
                    List<int[]> one = new ArrayList<>(row);
                    one.add(new int[] {sort, 0});
                    longer.add(one);
                }
            }
            rows = longer;
        }
        return rows;
    }

    private static final List<List<List<int[]>>> ROWS = List.of(rowsOf(0), rowsOf(1), rowsOf(2), rowsOf(3));

    List<int[]> find(int x, int y) {
        for (List<List<int[]>> rows : ROWS) {
            for (List<int[]> row : rows) {
                if (go(row, x) == y) {
                    return row;
                }
            }
        }
        return null;
    }

    int best(int n, int what) {
        int record = -1;
        int told = -1;
        for (List<int[]> row : ROWS.get(n)) {
            Naive one = new Naive(base, length);
            one.doing.addAll(row);
            int has = what == 0 ? one.rounds(2) : what == 1 ? one.rounds(0) : one.most(0);
            if (has > record) {
                record = has;
                told = n == 1 ? row.get(0)[0] : 100 * row.get(0)[0] + row.get(1)[0];
            }
        }
        return told;
    }

    int evening(int seed, int n, int what) {
        BigInteger x = BigInteger.valueOf(seed);
        TreeSet<Integer> homes = new TreeSet<>();
        int most = 0;
        int withFirst = 0;
        int first = -1;
        for (int i = 0; i < n; i++) {
            x = x.multiply(BigInteger.valueOf(1103515245)).add(BigInteger.valueOf(12345)).mod(BigInteger.TWO.pow(31));
            int drawn = x.divide(BigInteger.valueOf(65536)).mod(BigInteger.valueOf(size)).intValueExact();
            first = i == 0 ? least(drawn) : first;
            homes.add(least(drawn));
            most = Math.max(most, tail(drawn));
            withFirst += least(drawn) == first ? 1 : 0;
        }
        int[] all = {homes.size(), most, withFirst};
        return all[what];
    }
}
