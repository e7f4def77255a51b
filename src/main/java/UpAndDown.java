/**
 * Up and down and taken away: a doing on numbers of told length in a told base.
 * What every call answers is said, promise by promise, in ../shared/DOC.md.
 */
public final class UpAndDown {
    public static final int NONE = -1;

    private static final int NO_SUCH = -2;
    private static final int BELOW_ZERO = -3;
    private static final int FAULTY = -4;
    private static final int NOTHING = -6;
    private static final int BEYOND = -7;
    private static final int OTHER_WIDTH = -8;

    private static final int MOST_BYTES = 800;
    private static final int MOST_SIZE = 10000;
    private static final int MOST_LONG = 8;
    private static final int MOST_WORDS = 12;
    private static final int MOST_SLIPS = 6;
    private static final int MOST_TOLD = 20;
    private static final int MOST_CELLS = 60;
    private static final int MOST_DRAWN = 100;
    private static final int MOST_SEED = 2000000000;
    private static final int MOST_AFTER = 1000000000;
    private static final int MOST_BEHIND = 200;
    private static final int MOST_FOUND = 3;

    /** Sorts 0 .. 11 stand without a number, and only they are in the rows of find and best. */
    private static final int PLAIN_SORTS = 12;
    private static final int DOWN = 0;
    private static final int UP = 1;
    private static final int TURN = 2;
    private static final int KEEP = 3;
    private static final int BACK = 4;
    private static final int LESS = 5;
    private static final int ADD = 6;
    private static final int SQUARE = 7;
    private static final int CUBE = 8;
    private static final int SUM = 9;
    private static final int HALF = 10;
    private static final int FIRST = 11;
    private static final int TIMES = 12;
    private static final int PLUS = 13;
    private static final int OUT = 14;

    private static final int ALL_TOLD = 3;

    private final Tape tape = new Tape();
    private final Reader reader = new Reader(tape);
    private final Table table = new Table();
    private final Table spare = new Table();
    private final Figures figures = new Figures();
    private final Paths paths = new Paths();
    private final Crowd crowds = new Crowd();
    private final Contest contest = new Contest();
    private final Words trial = new Words();
    private final Evening evenings = new Evening();
    private final Slot[] slots = {new Slot(), new Slot(), new Slot(), new Slot()};
    private final Table[] images = new Table[3];

    public UpAndDown() {
    }

    public int feed(int a, int b, int c, int d, int e) {
        if (!tape.hasRoomFor(20)) {
            return NONE;
        }
        tape.push(a);
        tape.push(b);
        tape.push(c);
        tape.push(d);
        tape.push(e);
        return tape.count;
    }

    public int end(int n) {
        if (n < 0 || n > tape.count) {
            return NONE;
        }
        tape.count = n;
        return n;
    }

    public int table() {
        boolean fine = reader.read(spare);
        tape.count = 0;
        if (!fine) {
            return FAULTY;
        }
        table.copy(spare);
        begin();
        return table.lines;
    }

    public int fault(int what) {
        if (what == 0) {
            return reader.fault;
        }
        return what == 1 ? reader.place : NONE;
    }

    public int word(int i, int what) {
        if (!isWord(i) || what < 0 || what > 1) {
            return NO_SUCH;
        }
        int sort = table.doing.sort(i);
        if (what == 0) {
            return sort;
        }
        return sort >= PLAIN_SORTS ? table.doing.number(i) : NONE;
    }

    public int turn(int i, int sort, int number) {
        if (!isWord(i) || sort < DOWN || sort > OUT || number < 0 || number > table.mostOf(sort)) {
            return NO_SUCH;
        }
        if (table.doing.is(i, sort, number)) {
            return 0;
        }
        table.doing.change(i, sort, number);
        forget();
        return 1;
    }

    public int size() {
        return hasTable() ? table.size : NO_SUCH;
    }

    public int figure(int x, int i) {
        if (!isNumber(x) || i < 0 || i >= table.length) {
            return NO_SUCH;
        }
        return figures.figureOf(x, i);
    }

    public int next(int x) {
        if (!isNumber(x)) {
            return NO_SUCH;
        }
        return table.doing.go(figures, x, table.doing.count);
    }

    public int through(int x, int i) {
        if (!isNumber(x) || i < 0 || i > table.doing.count) {
            return NO_SUCH;
        }
        return table.doing.go(figures, x, i);
    }

    public int after(int x, int n) {
        if (!isNumber(x) || n < 0 || n > MOST_AFTER) {
            return NO_SUCH;
        }
        return known().afterGoes(x, n);
    }

    public int ends(int x, int what) {
        if (!isNumber(x) || what < 0 || what > 3) {
            return NO_SUCH;
        }
        Paths ways = known();
        switch (what) {
            case 0:
                return ways.tailOf(x);
            case 1:
                return ways.lengthOf(ways.homeOf(x));
            case 2:
                return ways.leastOf(ways.homeOf(x));
            default:
                return ways.afterGoes(x, ways.tailOf(x));
        }
    }

    public int rounds(int what) {
        if (!hasTable() || what < 0 || what > 3) {
            return NO_SUCH;
        }
        Paths ways = known();
        switch (what) {
            case 0:
                return ways.rounds;
            case 1:
                return ways.rests;
            case 2:
                return ways.longest;
            default:
                return ways.leastOnLongest;
        }
    }

    public int round(int i, int what) {
        if (!hasTable() || what < 0 || what > 3) {
            return NO_SUCH;
        }
        Paths ways = known();
        if (i < 0 || i >= ways.rounds) {
            return NONE;
        }
        switch (what) {
            case 0:
                return ways.leastOf(i);
            case 1:
                return ways.lengthOf(i);
            case 2:
                return ways.comersTo(i);
            default:
                return ways.mostGoesTo(i);
        }
    }

    public int on(int i, int k) {
        if (!hasTable()) {
            return NO_SUCH;
        }
        Paths ways = known();
        if (i < 0 || i >= ways.rounds || k < 0 || k >= ways.lengthOf(i)) {
            return NONE;
        }
        return ways.afterGoes(ways.leastOf(i), k);
    }

    public int most(int what) {
        if (!hasTable() || what < 0 || what > 2) {
            return NO_SUCH;
        }
        Paths ways = known();
        switch (what) {
            case 0:
                return ways.mostGoes;
            case 1:
                return ways.leastTaking(ways.mostGoes);
            default:
                return ways.countTaking(ways.mostGoes);
        }
    }

    public int take(int n) {
        if (!hasTable() || n < 0) {
            return NO_SUCH;
        }
        return known().countTaking(n);
    }

    public int gardens() {
        return hasTable() ? known().countGardens() : NO_SUCH;
    }

    public int garden(int i) {
        if (!hasTable()) {
            return NO_SUCH;
        }
        return i < 0 ? NONE : known().gardenAt(i);
    }

    public int from(int x, int what) {
        if (!isNumber(x) || what < NONE) {
            return NO_SUCH;
        }
        Paths ways = known();
        if (what == NONE) {
            return ways.countInto(x);
        }
        return what < ways.countInto(x) ? ways.into(x, what) : NONE;
    }

    public int back(int x, int n) {
        if (!isNumber(x) || !isBehind(n)) {
            return NO_SUCH;
        }
        return known().countBack(x, n);
    }

    public int meet(int x, int y) {
        if (!isNumber(x) || !isNumber(y)) {
            return NO_SUCH;
        }
        return known().goesTillSame(x, y);
    }

    public int join(int x, int y, int what) {
        if (!isNumber(x) || !isNumber(y) || what < 0 || what > 2) {
            return NO_SUCH;
        }
        return known().joined(x, y, what);
    }

    public int kinds() {
        return hasTable() ? figures.countKinds() : NO_SUCH;
    }

    public int kind(int x, int what) {
        if (!isNumber(x) || what < 0 || what > 1) {
            return NO_SUCH;
        }
        return what == 0 ? figures.leastOfKind(x) : figures.countOfKind(x);
    }

    public int odd() {
        return hasTable() ? known().firstOdd(figures) : NO_SUCH;
    }

    public int sure(int crowd, int n, int place) {
        if (!isCrowd(crowd) || !isBehind(n) || !isPlace(place)) {
            return NO_SUCH;
        }
        return behind(known(), crowd, n).sureFigure(figures, place);
    }

    public int fewest(int crowd, int place) {
        if (!isCrowd(crowd) || !isPlace(place)) {
            return NO_SUCH;
        }
        Paths ways = known();
        for (int n = 0; n <= MOST_BEHIND; n++) {
            Crowd now = behind(ways, crowd, n);
            if (now.sureFigure(figures, place) != NONE) {
                return n;
            }
            if (now.still) {
                return NONE;
            }
        }
        return NONE;
    }

    public int left(int crowd, int n) {
        if (!isCrowd(crowd) || !isBehind(n)) {
            return NO_SUCH;
        }
        return behind(known(), crowd, n).count;
    }

    public int rest(int crowd, int n) {
        if (!isCrowd(crowd) || !isBehind(n)) {
            return NO_SUCH;
        }
        return behind(known(), crowd, n).greatestOfOneRest();
    }

    public int out(int crowd, int n, int told) {
        if (!isCrowd(crowd) || !isBehind(n) || told < 0 || told >= figures.power(table.length - 1)) {
            return NO_SUCH;
        }
        return behind(known(), crowd, n).leftOut(figures, told);
    }

    public int slip(int x, int i, int slip) {
        if (!isNumber(x) || !isWord(i) || slip < 0 || slip >= table.slipped.count || !canSlip(i, slip)) {
            return NO_SUCH;
        }
        return nextSlipped(x, i, slip);
    }

    public int fits(int x, int y) {
        if (!isNumber(x) || !isNumber(y)) {
            return NO_SUCH;
        }
        int fit = 0;
        for (int i = 0; i < table.doing.count; i++) {
            for (int slip = 0; slip < table.slipped.count; slip++) {
                fit += isSlipTo(x, y, i, slip) ? 1 : 0;
            }
        }
        return fit;
    }

    public int which(int x, int y) {
        if (!isNumber(x) || !isNumber(y)) {
            return NO_SUCH;
        }
        for (int i = 0; i < table.doing.count; i++) {
            for (int slip = 0; slip < table.slipped.count; slip++) {
                if (isSlipTo(x, y, i, slip)) {
                    return 10 * i + slip;
                }
            }
        }
        return NONE;
    }

    public int find(int x, int y) {
        if (!isNumber(x) || !isNumber(y)) {
            return NO_SUCH;
        }
        return tryRows(x, y);
    }

    public int found(int x, int y, int i) {
        if (!isNumber(x) || !isNumber(y)) {
            return NO_SUCH;
        }
        int words = tryRows(x, y);
        return i >= 0 && i < words ? trial.sort(i) : NONE;
    }

    public int best(int n, int what) {
        if (!hasTable() || n < 1 || n > 2 || what < 0 || what > 2) {
            return NO_SUCH;
        }
        return contest.winner(figures, paths, n, what);
    }

    public int evening(int seed, int n, int what) {
        if (!hasTable() || seed < 0 || seed > MOST_SEED || n < 1 || n > MOST_DRAWN || what < 0 || what > 2) {
            return NO_SUCH;
        }
        Paths ways = known();
        evenings.draw(seed, n, table.size);
        switch (what) {
            case 0:
                return evenings.unlikeRounds(ways);
            case 1:
                return evenings.longestWay(ways);
            default:
                return evenings.withTheFirst(ways);
        }
    }

    public int judge(int slot) {
        Slot line = slotAt(slot);
        if (line == null || !hasTable()) {
            return NO_SUCH;
        }
        return line.has ? countRight(line) : NOTHING;
    }

    public int count(int what) {
        switch (what) {
            case 0:
                return table.base;
            case 1:
                return table.length;
            case 2:
                return table.doing.count;
            case 3:
                return table.slipped.count;
            case 4:
                return table.toldCount;
            case 5:
                return table.lines;
            case 6:
                return tape.count;
            case 7:
                return countSlots();
            default:
                return NONE;
        }
    }

    public int told(int i) {
        return i >= 0 && i < table.toldCount ? Cells.at(table.told, i) : NONE;
    }

    public int keep(int k) {
        if (!isImage(k)) {
            return NO_SUCH;
        }
        if (images[k] == null) {
            images[k] = new Table();
        }
        images[k].copy(table);
        return 0;
    }

    public int restore(int k) {
        if (!isImage(k)) {
            return NO_SUCH;
        }
        if (images[k] == null) {
            return NOTHING;
        }
        table.copy(images[k]);
        begin();
        return 0;
    }

    public int row(int slot, int width, int n) {
        Slot line = slotAt(slot);
        if (line == null || width < 0 || width > 3 || n > MOST_CELLS) {
            return NO_SUCH;
        }
        if (n < 0) {
            return BELOW_ZERO;
        }
        line.begin(width, n);
        return 0;
    }

    public int write(int slot, int i, long v) {
        Slot line = slotAt(slot);
        if (line == null) {
            return NO_SUCH;
        }
        if (!line.has) {
            return NOTHING;
        }
        return line.put(i, v) ? 0 : BEYOND;
    }

    public int paste(int slot, int i, int to, int k, int n) {
        Slot giver = slotAt(slot);
        Slot taker = slotAt(to);
        if (giver == null || taker == null) {
            return NO_SUCH;
        }
        if (!giver.has || !taker.has) {
            return NOTHING;
        }
        if (giver.width != taker.width) {
            return OTHER_WIDTH;
        }
        if (!giver.spans(i, n) || !taker.spans(k, n)) {
            return BEYOND;
        }
        System.arraycopy(giver.cells, i, taker.cells, k, n);
        return 0;
    }

    private boolean hasTable() {
        return table.size > 0;
    }

    private boolean isNumber(int x) {
        return x >= 0 && x < table.size;
    }

    private boolean isWord(int i) {
        return i >= 0 && i < table.doing.count;
    }

    private boolean isPlace(int place) {
        return place >= 0 && place < table.length;
    }

    private boolean isCrowd(int crowd) {
        return hasTable() && crowd >= 0 && crowd <= ALL_TOLD;
    }

    private static boolean isBehind(int n) {
        return n >= 0 && n <= MOST_BEHIND;
    }

    private Slot slotAt(int slot) {
        return slot >= 0 && slot < slots.length ? slots[slot] : null;
    }

    private boolean isImage(int k) {
        return k >= 0 && k < images.length;
    }

    /** Figures hang on base and long alone, so a table of the same ones finds them ready. */
    private void begin() {
        figures.prepare(table.base, table.length, table.size);
        forget();
    }

    private void forget() {
        paths.fresh = false;
        crowds.crowd = NONE;
    }

    private Paths known() {
        paths.prepare(figures, table.doing);
        return paths;
    }

    private Crowd behind(Paths ways, int crowd, int n) {
        if (crowds.crowd != crowd || crowds.goes > n) {
            crowds.begin(figures, table, crowd);
        }
        crowds.goOn(ways, n);
        return crowds;
    }

    private boolean canSlip(int i, int slip) {
        return table.doing.is(i, table.meant.sort(slip), table.meant.number(slip));
    }

    private int nextSlipped(int x, int i, int slip) {
        trial.copy(table.doing);
        trial.change(i, table.slipped.sort(slip), table.slipped.number(slip));
        return trial.go(figures, x, trial.count);
    }

    private boolean isSlipTo(int x, int y, int i, int slip) {
        return canSlip(i, slip) && nextSlipped(x, i, slip) == y;
    }

    /** Leaves the first row that makes y of x in trial; how many words it has, or NONE. */
    private int tryRows(int x, int y) {
        int rows = 1;
        for (int words = 0; words <= MOST_FOUND; words++) {
            for (int code = 0; code < rows; code++) {
                trial.spell(code, words);
                if (trial.go(figures, x, words) == y) {
                    return words;
                }
            }
            rows *= PLAIN_SORTS;
        }
        return NONE;
    }

    private int countRight(Slot line) {
        int due = NONE;
        for (int i = 0; i < line.count; i++) {
            long has = line.get(i);
            if (has < 0 || has >= table.size || (i > 0 && has != due)) {
                return i;
            }
            due = table.doing.go(figures, (int) has, table.doing.count);
        }
        return line.count;
    }

    private int countSlots() {
        int having = 0;
        for (Slot slot : slots) {
            having += slot != null && slot.has ? 1 : 0;
        }
        return having;
    }

    /** Reads and writes of rows that look at the index first, divisions that look at the divisor. */
    static final class Cells {
        private Cells() {
        }

        static int at(int[] cells, int i) {
            return i >= 0 && i < cells.length ? cells[i] : 0;
        }

        static void put(int[] cells, int i, int v) {
            if (i >= 0 && i < cells.length) {
                cells[i] = v;
            }
        }

        static int part(int x, int by) {
            return by > 0 ? x / by : 0;
        }

        static int over(int x, int by) {
            return by > 0 ? x % by : 0;
        }
    }

    /** The bytes that were fed and not yet read as a table. */
    static final class Tape {
        private final int[] bytes = new int[MOST_BYTES];
        int count;

        boolean hasRoomFor(int more) {
            return count + more <= MOST_BYTES;
        }

        void push(int four) {
            for (int shift = 24; shift >= 0; shift -= 8) {
                Cells.put(bytes, count, (four >>> shift) & 255);
                count++;
            }
        }

        /** NONE at the end, so that no byte is like it. */
        int byteAt(int i) {
            return i >= 0 && i < count && i < bytes.length ? bytes[i] : NONE;
        }
    }

    /** A row of words, each by its sort and its number (0 for sorts without one). */
    static final class Words {
        private final int[] sorts = new int[MOST_WORDS];
        private final int[] numbers = new int[MOST_WORDS];
        int count;

        void add(int sort, int number) {
            if (count < MOST_WORDS) {
                change(count, sort, number);
                count++;
            }
        }

        void change(int i, int sort, int number) {
            Cells.put(sorts, i, sort);
            Cells.put(numbers, i, number);
        }

        int sort(int i) {
            return Cells.at(sorts, i);
        }

        int number(int i) {
            return Cells.at(numbers, i);
        }

        boolean is(int i, int sort, int number) {
            return sort(i) == sort && number(i) == number;
        }

        void copy(Words other) {
            count = other.count;
            for (int i = 0; i < count; i++) {
                change(i, other.sort(i), other.number(i));
            }
        }

        /** Row number code of all rows of so many plain words, the first word telling most. */
        void spell(int code, int words) {
            count = words;
            int rest = code;
            for (int i = words - 1; i >= 0; i--) {
                change(i, rest % PLAIN_SORTS, 0);
                rest /= PLAIN_SORTS;
            }
        }

        int go(Figures figures, int x, int words) {
            int now = x;
            int kept = x;
            for (int i = 0; i < words && i < count; i++) {
                int sort = sort(i);
                now = figures.done(sort, number(i), now, kept);
                if (sort == KEEP) {
                    kept = now;
                }
            }
            return now;
        }
    }

    /** What a table tells; a size of 0 is no table. */
    static final class Table {
        int base;
        int length;
        int size;
        int lines;
        final Words doing = new Words();
        final Words slipped = new Words();
        final Words meant = new Words();
        final int[] told = new int[MOST_TOLD];
        int toldCount;

        void clear() {
            base = 0;
            length = 0;
            size = 0;
            lines = 0;
            doing.count = 0;
            slipped.count = 0;
            meant.count = 0;
            toldCount = 0;
        }

        void copy(Table other) {
            base = other.base;
            length = other.length;
            size = other.size;
            lines = other.lines;
            doing.copy(other.doing);
            slipped.copy(other.slipped);
            meant.copy(other.meant);
            toldCount = other.toldCount;
            for (int i = 0; i < toldCount; i++) {
                Cells.put(told, i, Cells.at(other.told, i));
            }
        }

        void tell(int number) {
            Cells.put(told, toldCount, number);
            toldCount++;
        }

        /** The greatest number that a word of a sort may have; 0 where it has none. */
        int mostOf(int sort) {
            if (sort < PLAIN_SORTS) {
                return 0;
            }
            return sort == OUT ? base - 1 : 99;
        }
    }

    /** Reads the tape as a table, as far as its first fault. */
    static final class Reader {
        private static final int AT_END = 0;
        private static final int LETTERS = 1;
        private static final int DIGITS = 2;
        private static final int SIGN = 3;
        private static final int STRANGE = 4;
        private static final int HUGE = 1000000;

        private final Tape tape;
        private int token;
        private int from;
        private int behind;
        private int readSort;
        private int readNumber;
        int fault;
        int place = NONE;

        Reader(Tape tape) {
            this.tape = tape;
        }

        boolean read(Table into) {
            fault = 0;
            place = NONE;
            behind = 0;
            into.clear();
            advance();
            for (int i = 0; i <= MOST_BYTES && token != AT_END; i++) {
                if (!readLine(into) || !readSign()) {
                    return false;
                }
                into.lines++;
            }
            return true;
        }

        private boolean readLine(Table into) {
            if (into.lines == 0) {
                return readBase(into);
            }
            if (isText("doing")) {
                return readDoing(into);
            }
            if (isText("number")) {
                return readTold(into);
            }
            return isText("slip") ? readSlip(into) : wrong(1);
        }

        private boolean readBase(Table into) {
            if (!readText("table") || !readText("base") || !readBetween(2, 16)) {
                return false;
            }
            into.base = readNumber;
            if (!readText("long") || !readBetween(1, longest(into.base))) {
                return false;
            }
            into.length = readNumber;
            into.size = 1;
            for (int i = 0; i < into.length; i++) {
                into.size *= into.base;
            }
            return true;
        }

        private static int longest(int base) {
            int most = 0;
            for (int size = base; most < MOST_LONG && size <= MOST_SIZE; size *= base) {
                most++;
            }
            return most;
        }

        private boolean readDoing(Table into) {
            if (into.doing.count > 0) {
                return wrong(2);
            }
            advance();
            for (int i = 0; i <= MOST_WORDS; i++) {
                if (i > 0 && token == SIGN) {
                    return true;
                }
                if (sortHere() != NONE && i == MOST_WORDS) {
                    return wrong(3);
                }
                if (!readWord(into)) {
                    return false;
                }
                into.doing.add(readSort, readNumber);
            }
            return true;
        }

        private boolean readTold(Table into) {
            if (into.toldCount >= MOST_TOLD) {
                return wrong(3);
            }
            advance();
            if (!readBetween(0, into.size - 1)) {
                return false;
            }
            into.tell(readNumber);
            return true;
        }

        private boolean readSlip(Table into) {
            if (into.slipped.count >= MOST_SLIPS) {
                return wrong(3);
            }
            advance();
            if (!readWord(into)) {
                return false;
            }
            into.slipped.add(readSort, readNumber);
            if (!readText("for") || !readWord(into)) {
                return false;
            }
            into.meant.add(readSort, readNumber);
            return true;
        }

        /** Leaves the word in readSort and readNumber. */
        private boolean readWord(Table into) {
            int sort = sortHere();
            if (sort == NONE) {
                return wrong(1);
            }
            advance();
            readSort = sort;
            readNumber = 0;
            return sort < PLAIN_SORTS || readBetween(0, into.mostOf(sort));
        }

        private boolean readText(String text) {
            if (!isText(text)) {
                return wrong(1);
            }
            advance();
            return true;
        }

        private boolean readSign() {
            if (token != SIGN) {
                return wrong(1);
            }
            advance();
            return true;
        }

        private boolean readBetween(int least, int most) {
            if (token != DIGITS) {
                return wrong(1);
            }
            int value = 0;
            for (int i = from; i < behind; i++) {
                value = Math.min(HUGE, 10 * value + tape.byteAt(i) - '0');
            }
            if (value < least || value > most) {
                return wrong(2);
            }
            readNumber = value;
            advance();
            return true;
        }

        private boolean wrong(int sort) {
            fault = sort;
            place = from;
            return false;
        }

        private void advance() {
            from = behind;
            while (from < tape.count && isBlank(tape.byteAt(from))) {
                from++;
            }
            token = tokenOf(tape.byteAt(from));
            behind = from + (token == AT_END ? 0 : 1);
            if (token == LETTERS || token == DIGITS) {
                while (behind < tape.count && tokenOf(tape.byteAt(behind)) == token) {
                    behind++;
                }
            }
        }

        private static boolean isBlank(int sign) {
            return sign == 32 || sign == 10;
        }

        private static int tokenOf(int sign) {
            if (sign == NONE) {
                return AT_END;
            }
            if (sign >= 'a' && sign <= 'z') {
                return LETTERS;
            }
            if (sign >= '0' && sign <= '9') {
                return DIGITS;
            }
            return sign == ';' ? SIGN : STRANGE;
        }

        private boolean isText(String text) {
            if (token != LETTERS || behind - from != text.length()) {
                return false;
            }
            for (int i = 0; i < text.length(); i++) {
                if (tape.byteAt(from + i) != text.charAt(i)) {
                    return false;
                }
            }
            return true;
        }

        /** The sort of the word at hand, NONE if it is none. */
        private int sortHere() {
            for (int sort = DOWN; sort <= OUT; sort++) {
                if (isText(nameOf(sort))) {
                    return sort;
                }
            }
            return NONE;
        }

        private static String nameOf(int sort) {
            switch (sort) {
                case DOWN:
                    return "down";
                case UP:
                    return "up";
                case TURN:
                    return "turn";
                case KEEP:
                    return "keep";
                case BACK:
                    return "back";
                case LESS:
                    return "less";
                case ADD:
                    return "add";
                case SQUARE:
                    return "square";
                case CUBE:
                    return "cube";
                case SUM:
                    return "sum";
                case HALF:
                    return "half";
                case FIRST:
                    return "first";
                case TIMES:
                    return "times";
                case PLUS:
                    return "plus";
                default:
                    return "out";
            }
        }
    }

    /** What words do to a number's figures, made ready once for each base and long. */
    static final class Figures {
        int base;
        int length;
        int size;
        private final int[] powers = new int[MOST_LONG + 1];
        private final int[] split = new int[MOST_LONG];
        private final int[] down = new int[MOST_SIZE];
        private final int[] up = new int[MOST_SIZE];
        private final int[] turned = new int[MOST_SIZE];
        private final int[] squares = new int[MOST_SIZE];
        private final int[] cubes = new int[MOST_SIZE];
        private final int[] sums = new int[MOST_SIZE];
        private final int[] moved = new int[MOST_SIZE];

        void prepare(int newBase, int newLength, int newSize) {
            if (base == newBase && length == newLength) {
                return;
            }
            base = newBase;
            length = newLength;
            size = newSize;
            int power = 1;
            for (int i = 0; i <= length; i++) {
                Cells.put(powers, i, power);
                power *= base;
            }
            for (int x = 0; x < size; x++) {
                prepareOne(x);
            }
        }

        private void prepareOne(int x) {
            int sum = 0;
            int square = 0;
            int cube = 0;
            for (int i = 0; i < length; i++) {
                int figure = figureOf(x, i);
                Cells.put(split, i, figure);
                sum += figure;
                square += figure * figure;
                cube += figure * figure * figure;
            }
            Cells.put(sums, x, Cells.over(sum, size));
            Cells.put(squares, x, Cells.over(square, size));
            Cells.put(cubes, x, Cells.over(cube, size));
            Cells.put(turned, x, splitFromLast());
            Cells.put(moved, x, Cells.over(x, power(length - 1)) * base + Cells.at(split, 0));
            sortSplit();
            Cells.put(up, x, splitFromFirst());
            Cells.put(down, x, splitFromLast());
        }

        private int splitFromFirst() {
            int made = 0;
            for (int i = 0; i < length; i++) {
                made = made * base + Cells.at(split, i);
            }
            return made;
        }

        private int splitFromLast() {
            int made = 0;
            for (int i = length - 1; i >= 0; i--) {
                made = made * base + Cells.at(split, i);
            }
            return made;
        }

        private void sortSplit() {
            for (int i = 1; i < length; i++) {
                int figure = Cells.at(split, i);
                int to = i;
                for (; to > 0 && Cells.at(split, to - 1) > figure; to--) {
                    Cells.put(split, to, Cells.at(split, to - 1));
                }
                Cells.put(split, to, figure);
            }
        }

        int power(int i) {
            return Cells.at(powers, i);
        }

        int figureOf(int x, int i) {
            return Cells.over(Cells.part(x, power(length - 1 - i)), base);
        }

        /** x without its figure i, the others moved together. */
        int without(int x, int i) {
            int low = power(length - 1 - i);
            return Cells.part(x, power(length - i)) * low + Cells.over(x, low);
        }

        /** What a number is behind one word; that keep keeps it is for the row of words to do. */
        int done(int sort, int number, int now, int kept) {
            switch (sort) {
                case DOWN:
                    return Cells.at(down, now);
                case UP:
                    return Cells.at(up, now);
                case TURN:
                    return Cells.at(turned, now);
                case KEEP:
                    return now;
                case BACK:
                    return kept;
                case LESS:
                    return Math.abs(now - kept);
                case ADD:
                    return Cells.over(now + kept, size);
                case SQUARE:
                    return Cells.at(squares, now);
                case CUBE:
                    return Cells.at(cubes, now);
                case SUM:
                    return Cells.at(sums, now);
                case HALF:
                    return now % 2 == 0 ? now / 2 : now;
                case FIRST:
                    return Cells.at(moved, now);
                case TIMES:
                    return Cells.over(now * number, size);
                case PLUS:
                    return Cells.over(now + number, size);
                default:
                    return leaving(now, number);
            }
        }

        /** From the last figure on, so that those left out move the others together. */
        private int leaving(int x, int number) {
            if (base < 2) {
                return 0;
            }
            int made = 0;
            int place = 1;
            int rest = x;
            for (int i = 0; i < length; i++) {
                int figure = rest % base;
                if (figure != number) {
                    made += figure * place;
                    place *= base;
                }
                rest /= base;
            }
            return made;
        }

        int leastOfKind(int x) {
            return Cells.at(up, x);
        }

        int countOfKind(int x) {
            int least = leastOfKind(x);
            int alike = 0;
            for (int y = 0; y < size; y++) {
                alike += leastOfKind(y) == least ? 1 : 0;
            }
            return alike;
        }

        int countKinds() {
            int kinds = 0;
            for (int x = 0; x < size; x++) {
                kinds += leastOfKind(x) == x ? 1 : 0;
            }
            return kinds;
        }

        boolean allAlike(int x) {
            return Cells.at(up, x) == Cells.at(down, x);
        }

        /** Like figures stand side by side once they are sorted. */
        boolean allUnlike(int x) {
            int sorted = leastOfKind(x);
            for (int i = 1; i < length; i++) {
                if (figureOf(sorted, i - 1) == figureOf(sorted, i)) {
                    return false;
                }
            }
            return true;
        }
    }

    /** Where each number goes, again and again, by one row of words. */
    static final class Paths {
        private int size;
        private final int[] next = new int[MOST_SIZE];
        private final int[] tail = new int[MOST_SIZE];
        private final int[] home = new int[MOST_SIZE];
        private final int[] least = new int[MOST_SIZE];
        private final int[] waiting = new int[MOST_SIZE];
        private final int[] queue = new int[MOST_SIZE];
        private final int[] intoStart = new int[MOST_SIZE + 1];
        private final int[] intoList = new int[MOST_SIZE];
        boolean fresh;
        int rounds;
        int rests;
        int longest;
        int leastOnLongest;
        int mostGoes;

        void prepare(Figures figures, Words words) {
            if (fresh) {
                return;
            }
            lay(figures, words);
            listInto();
            fresh = true;
        }

        /** For rows of words that only compete: what is known of the table's own is gone then. */
        void lay(Figures figures, Words words) {
            fresh = false;
            size = figures.size;
            for (int x = 0; x < size; x++) {
                Cells.put(next, x, words.go(figures, x, words.count));
            }
            int peeled = peel();
            nameRounds();
            goBack(peeled);
        }

        /** Queues all that are on no round, each ahead of its next: those left waiting are on one. */
        private int peel() {
            for (int x = 0; x < size; x++) {
                Cells.put(waiting, x, 0);
            }
            for (int x = 0; x < size; x++) {
                waitMore(nextOf(x), 1);
            }
            int queued = 0;
            for (int x = 0; x < size; x++) {
                if (Cells.at(waiting, x) == 0) {
                    Cells.put(queue, queued++, x);
                }
            }
            for (int i = 0; i < queued && i < size; i++) {
                int y = nextOf(Cells.at(queue, i));
                waitMore(y, -1);
                if (Cells.at(waiting, y) == 0) {
                    Cells.put(queue, queued++, y);
                }
            }
            return queued;
        }

        private void waitMore(int x, int more) {
            Cells.put(waiting, x, Cells.at(waiting, x) + more);
        }

        /** By ascending numbers, so that each round is met at its least one. */
        private void nameRounds() {
            rounds = 0;
            rests = 0;
            longest = 0;
            leastOnLongest = NONE;
            for (int x = 0; x < size; x++) {
                if (Cells.at(waiting, x) > 0) {
                    int length = walkRound(x);
                    Cells.put(least, rounds++, x);
                    rests += length == 1 ? 1 : 0;
                    if (length > longest) {
                        longest = length;
                        leastOnLongest = x;
                    }
                }
            }
        }

        private int walkRound(int x) {
            int length = 0;
            for (int y = x; length < size && Cells.at(waiting, y) > 0; y = nextOf(y)) {
                Cells.put(waiting, y, 0);
                Cells.put(tail, y, 0);
                Cells.put(home, y, rounds);
                length++;
            }
            return length;
        }

        private void goBack(int peeled) {
            mostGoes = 0;
            for (int i = peeled - 1; i >= 0; i--) {
                int x = Cells.at(queue, i);
                int goes = tailOf(nextOf(x)) + 1;
                Cells.put(tail, x, goes);
                Cells.put(home, x, homeOf(nextOf(x)));
                mostGoes = Math.max(mostGoes, goes);
            }
        }

        /** All that come to x in one go stand in intoList from intoStart of x to that of x + 1. */
        private void listInto() {
            for (int x = 0; x <= size; x++) {
                Cells.put(intoStart, x, 0);
            }
            for (int x = 0; x < size; x++) {
                startMore(nextOf(x), 1);
            }
            for (int x = 1; x <= size; x++) {
                startMore(x, Cells.at(intoStart, x - 1));
            }
            for (int x = size - 1; x >= 0; x--) {
                startMore(nextOf(x), -1);
                Cells.put(intoList, Cells.at(intoStart, nextOf(x)), x);
            }
        }

        private void startMore(int x, int more) {
            Cells.put(intoStart, x, Cells.at(intoStart, x) + more);
        }

        int nextOf(int x) {
            return Cells.at(next, x);
        }

        int tailOf(int x) {
            return Cells.at(tail, x);
        }

        int homeOf(int x) {
            return Cells.at(home, x);
        }

        int leastOf(int round) {
            return Cells.at(least, round);
        }

        int lengthOf(int round) {
            int start = leastOf(round);
            int length = 1;
            for (int y = nextOf(start); length < size && y != start; y = nextOf(y)) {
                length++;
            }
            return length;
        }

        int comersTo(int round) {
            int comers = 0;
            for (int x = 0; x < size; x++) {
                comers += homeOf(x) == round ? 1 : 0;
            }
            return comers;
        }

        int mostGoesTo(int round) {
            int most = 0;
            for (int x = 0; x < size; x++) {
                if (homeOf(x) == round) {
                    most = Math.max(most, tailOf(x));
                }
            }
            return most;
        }

        /** Whole rounds are left out, so no walk is longer than there are numbers. */
        int afterGoes(int x, int n) {
            int goes = n;
            if (n > tailOf(x)) {
                goes = tailOf(x) + Cells.over(n - tailOf(x), lengthOf(homeOf(x)));
            }
            int y = x;
            for (int i = 0; i < goes && i < size; i++) {
                y = nextOf(y);
            }
            return y;
        }

        int countTaking(int n) {
            int taking = 0;
            for (int x = 0; x < size; x++) {
                taking += tailOf(x) == n ? 1 : 0;
            }
            return taking;
        }

        int leastTaking(int n) {
            for (int x = 0; x < size; x++) {
                if (tailOf(x) == n) {
                    return x;
                }
            }
            return NONE;
        }

        int countInto(int x) {
            return Cells.at(intoStart, x + 1) - Cells.at(intoStart, x);
        }

        int into(int x, int i) {
            return Cells.at(intoList, Cells.at(intoStart, x) + i);
        }

        int countGardens() {
            int gardens = 0;
            for (int x = 0; x < size; x++) {
                gardens += countInto(x) == 0 ? 1 : 0;
            }
            return gardens;
        }

        int gardenAt(int i) {
            int ahead = 0;
            for (int x = 0; x < size; x++) {
                if (countInto(x) == 0) {
                    if (ahead == i) {
                        return x;
                    }
                    ahead++;
                }
            }
            return NONE;
        }

        /** From each number one way leads on, so only x itself can be met again on the way back. */
        int countBack(int x, int n) {
            Cells.put(queue, 0, x);
            int from = 0;
            int queued = 1;
            for (int goes = 0; goes < n && from < queued; goes++) {
                int until = queued;
                for (; from < until; from++) {
                    queued = queueInto(Cells.at(queue, from), x, queued);
                }
            }
            return queued - from;
        }

        private int queueInto(int y, int x, int queued) {
            int end = queued;
            for (int i = 0; i < countInto(y); i++) {
                if (into(y, i) != x) {
                    Cells.put(queue, end++, into(y, i));
                }
            }
            return end;
        }

        /** Two that are on rounds and unlike stay so. */
        int goesTillSame(int x, int y) {
            int most = Math.max(tailOf(x), tailOf(y));
            int a = x;
            int b = y;
            for (int goes = 0; goes <= most; goes++) {
                if (a == b) {
                    return goes;
                }
                a = nextOf(a);
                b = nextOf(b);
            }
            return NONE;
        }

        /**
         * The one with more goes till the round goes on alone, then both: ahead of the round only numbers
         * of as many goes can be the same. On the round y comes to where x came to it.
         */
        int joined(int x, int y, int what) {
            if (homeOf(x) != homeOf(y)) {
                return NONE;
            }
            int a = x;
            int b = y;
            int goesOfX = 0;
            int goesOfY = 0;
            for (int i = 0; i < 3 * size && a != b; i++) {
                boolean both = tailOf(a) == tailOf(b) && tailOf(a) > 0;
                boolean moveA = both || tailOf(a) > tailOf(b);
                if (both || !moveA) {
                    b = nextOf(b);
                    goesOfY++;
                }
                if (moveA) {
                    a = nextOf(a);
                    goesOfX++;
                }
            }
            if (what == 0) {
                return a;
            }
            return what == 1 ? goesOfX : goesOfY;
        }

        int firstOdd(Figures figures) {
            for (int x = 0; x < size; x++) {
                if (nextOf(x) != nextOf(figures.leastOfKind(x))) {
                    return x;
                }
            }
            return NONE;
        }
    }

    /** The unlike numbers that a crowd is behind some goes; the latest is held to go on from. */
    static final class Crowd {
        private static final int NOT_ALL_ALIKE = 1;
        private static final int ALL_UNLIKE = 2;
        private static final int MOST_MODULUS = 99;

        private final int[] members = new int[MOST_SIZE];
        private final int[] marks = new int[MOST_SIZE];
        private int mark;
        int crowd = NONE;
        int goes;
        int count;
        boolean still;

        void begin(Figures figures, Table table, int newCrowd) {
            crowd = newCrowd;
            goes = 0;
            count = 0;
            still = false;
            mark++;
            if (crowd == ALL_TOLD) {
                for (int i = 0; i < table.toldCount; i++) {
                    admit(Cells.at(table.told, i));
                }
                return;
            }
            for (int x = 0; x < figures.size; x++) {
                if (isOf(figures, x)) {
                    admit(x);
                }
            }
        }

        private boolean isOf(Figures figures, int x) {
            if (crowd == NOT_ALL_ALIKE) {
                return !figures.allAlike(x);
            }
            return crowd != ALL_UNLIKE || figures.allUnlike(x);
        }

        private void admit(int x) {
            if (Cells.at(marks, x) != mark) {
                Cells.put(marks, x, mark);
                Cells.put(members, count++, x);
            }
        }

        void goOn(Paths paths, int n) {
            for (int i = goes; i < n && !still; i++) {
                goOnce(paths);
            }
            goes = n;
        }

        /** A crowd that a go makes the same again is so for ever: still spares the goes to come. */
        private void goOnce(Paths paths) {
            int before = count;
            int stayed = 0;
            count = 0;
            mark++;
            for (int i = 0; i < before; i++) {
                int y = paths.nextOf(Cells.at(members, i));
                stayed += Cells.at(marks, y) == mark - 1 ? 1 : 0;
                admit(y);
            }
            still = stayed == before;
        }

        int sureFigure(Figures figures, int place) {
            if (count == 0) {
                return NONE;
            }
            int figure = figures.figureOf(Cells.at(members, 0), place);
            for (int i = 1; i < count; i++) {
                if (figures.figureOf(Cells.at(members, i), place) != figure) {
                    return NONE;
                }
            }
            return figure;
        }

        int greatestOfOneRest() {
            if (count == 0) {
                return NONE;
            }
            for (int by = MOST_MODULUS; by >= 2; by--) {
                if (isOneRest(by)) {
                    return by;
                }
            }
            return NONE;
        }

        private boolean isOneRest(int by) {
            int rest = Cells.over(Cells.at(members, 0), by);
            for (int i = 1; i < count; i++) {
                if (Cells.over(Cells.at(members, i), by) != rest) {
                    return false;
                }
            }
            return true;
        }

        int leftOut(Figures figures, int told) {
            int bits = 0;
            for (int i = 0; i < count; i++) {
                int x = Cells.at(members, i);
                for (int place = 0; place < figures.length; place++) {
                    if (figures.without(x, place) == told) {
                        bits |= 1 << figures.figureOf(x, place);
                    }
                }
            }
            return bits;
        }
    }

    /** The winners of all doings of one or two plain words, held as long as base and long stay. */
    static final class Contest {
        private final int[] winners = new int[6];
        private final int[] records = new int[3];
        private final Words row = new Words();
        private final int[] heldBase = new int[2];
        private final int[] heldLength = new int[2];

        int winner(Figures figures, Paths paths, int n, int what) {
            int held = n - 1;
            if (Cells.at(heldBase, held) != figures.base || Cells.at(heldLength, held) != figures.length) {
                compete(figures, paths, n);
                Cells.put(heldBase, held, figures.base);
                Cells.put(heldLength, held, figures.length);
            }
            return Cells.at(winners, 3 * held + what);
        }

        private void compete(Figures figures, Paths paths, int n) {
            for (int what = 0; what < 3; what++) {
                Cells.put(records, what, NONE);
            }
            int rows = n == 1 ? PLAIN_SORTS : PLAIN_SORTS * PLAIN_SORTS;
            for (int code = 0; code < rows; code++) {
                row.spell(code, n);
                paths.lay(figures, row);
                int told = n == 1 ? row.sort(0) : 100 * row.sort(0) + row.sort(1);
                enter(3 * (n - 1), 0, paths.longest, told);
                enter(3 * (n - 1), 1, paths.rounds, told);
                enter(3 * (n - 1), 2, paths.mostGoes, told);
            }
        }

        /** Only more than the record wins, so the first of the best stays. */
        private void enter(int start, int what, int has, int told) {
            if (has > Cells.at(records, what)) {
                Cells.put(records, what, has);
                Cells.put(winners, start + what, told);
            }
        }
    }

    /** Numbers drawn from a seed. */
    static final class Evening {
        private final int[] drawn = new int[MOST_DRAWN];
        private int count;

        void draw(int seed, int n, int size) {
            long x = seed;
            count = n;
            for (int i = 0; i < n; i++) {
                x = (1103515245L * x + 12345L) % 2147483648L;
                Cells.put(drawn, i, Cells.over((int) (x / 65536L), size));
            }
        }

        private int homeAt(Paths paths, int i) {
            return paths.homeOf(Cells.at(drawn, i));
        }

        int unlikeRounds(Paths paths) {
            int unlike = 0;
            for (int i = 0; i < count; i++) {
                unlike += isFirstHome(paths, i) ? 1 : 0;
            }
            return unlike;
        }

        private boolean isFirstHome(Paths paths, int i) {
            for (int ahead = 0; ahead < i; ahead++) {
                if (homeAt(paths, ahead) == homeAt(paths, i)) {
                    return false;
                }
            }
            return true;
        }

        int longestWay(Paths paths) {
            int most = 0;
            for (int i = 0; i < count; i++) {
                most = Math.max(most, paths.tailOf(Cells.at(drawn, i)));
            }
            return most;
        }

        int withTheFirst(Paths paths) {
            int with = 0;
            for (int i = 0; i < count; i++) {
                with += homeAt(paths, i) == homeAt(paths, 0) ? 1 : 0;
            }
            return with;
        }
    }

    /** A row of numbers of one width, or nothing. */
    static final class Slot {
        final long[] cells = new long[MOST_CELLS];
        boolean has;
        int width;
        int count;

        void begin(int newWidth, int n) {
            has = true;
            width = newWidth;
            count = n;
            for (int i = 0; i < cells.length; i++) {
                cells[i] = 0;
            }
        }

        boolean put(int i, long v) {
            if (i < 0 || i >= count || i >= cells.length) {
                return false;
            }
            cells[i] = cut(v);
            return true;
        }

        private long cut(long v) {
            switch (width) {
                case 0:
                    return (byte) v;
                case 1:
                    return (short) v;
                case 2:
                    return (int) v;
                default:
                    return v;
            }
        }

        long get(int i) {
            return i >= 0 && i < count && i < cells.length ? cells[i] : 0;
        }

        boolean spans(int i, int n) {
            return i >= 0 && n >= 0 && i <= count && n <= count - i;
        }
    }
}
