import java.util.function.ToLongFunction;

/** Each answer below 0 of each promise, just beyond each bound, and that nothing changes behind it. */
public final class RefusedTest {
    private static final Due DUE = new Due();
    private static final int NONE = -1;
    private static final int NO_SUCH = -2;
    private static final int LEAST = Integer.MIN_VALUE;
    private static final int GREATEST = Integer.MAX_VALUE;
    /** No numbers of a table of 100. */
    private static final int[] NO_NUMBERS = {LEAST, -1, 100, GREATEST};

    public static void main(String[] args) {
        tape();
        words();
        numbers();
        goes();
        rounds();
        gardensAndBack();
        pairs();
        kinds();
        crowds();
        left();
        slips();
        finds();
        bestAndEvening();
        judgeAndCount();
        images();
        rows();
        writes();
        pastes();
        withoutTable();
        withoutTableBelow();
        DUE.end("RefusedTest");
    }

    private static void refused(String label, int due, ToLongFunction<UpAndDown> call) {
        Rich.leaves(DUE, Rich::make, label, due, call);
    }

    private static void tape() {
        refused("3: end, the tape has not so many", NONE, x -> x.end(11));
        refused("3: end, the tape has not so many", NONE, x -> x.end(GREATEST));
        refused("3: end, n is below 0", NONE, x -> x.end(-1));
        refused("3: end, n is below 0", NONE, x -> x.end(LEAST));
        refused("5: fault, another what", NONE, x -> x.fault(2));
        refused("5: fault, another what", NONE, x -> x.fault(-1));
        refused("5: fault, another what", NONE, x -> x.fault(LEAST));
        refused("5: fault, another what", NONE, x -> x.fault(GREATEST));
    }

    private static void words() {
        int[] noWords = {LEAST, -1, 1, 12, GREATEST};
        for (int i : noWords) {
            refused("6: word " + i, NO_SUCH, x -> x.word(i, 0));
            refused("6: number of word " + i, NO_SUCH, x -> x.word(i, 1));
            refused("7: turn word " + i, NO_SUCH, x -> x.turn(i, 0, 0));
        }
        refused("6: word, what 2", NO_SUCH, x -> x.word(0, 2));
        refused("6: word, what -1", NO_SUCH, x -> x.word(0, -1));
        int[] noSorts = {LEAST, -1, 15, GREATEST};
        for (int sort : noSorts) {
            refused("7: turn to sort " + sort, NO_SUCH, x -> x.turn(0, sort, 0));
        }
        for (int i = 0; i < 12; i++) {
            int sort = i;
            refused("7: a sort without a number, " + sort, NO_SUCH, x -> x.turn(0, sort, 1));
            refused("7: a sort without a number, " + sort, NO_SUCH, x -> x.turn(0, sort, -1));
        }
        int[] beyond = {100, 100, 10};
        for (int i = 0; i < 3; i++) {
            int sort = 12 + i;
            int most = beyond[i];
            refused("7: number beyond, " + sort, NO_SUCH, x -> x.turn(0, sort, most));
            refused("7: number far beyond, " + sort, NO_SUCH, x -> x.turn(0, sort, GREATEST));
            refused("7: number below, " + sort, NO_SUCH, x -> x.turn(0, sort, -1));
            refused("7: number far below, " + sort, NO_SUCH, x -> x.turn(0, sort, LEAST));
        }
    }

    private static void numbers() {
        for (int no : NO_NUMBERS) {
            refused("9: figure of " + no, NO_SUCH, x -> x.figure(no, 0));
            refused("10: next of " + no, NO_SUCH, x -> x.next(no));
            refused("11: through of " + no, NO_SUCH, x -> x.through(no, 0));
            refused("12: after of " + no, NO_SUCH, x -> x.after(no, 0));
            refused("13: ends of " + no, NO_SUCH, x -> x.ends(no, 0));
        }
        int[] noPlaces = {LEAST, -1, 2, GREATEST};
        for (int i : noPlaces) {
            refused("9: figure " + i, NO_SUCH, x -> x.figure(7, i));
            refused("11: through " + i, NO_SUCH, x -> x.through(7, i));
        }
    }

    private static void goes() {
        int[] noGoes = {LEAST, -1, 1000000001, GREATEST};
        for (int n : noGoes) {
            refused("12: after " + n, NO_SUCH, x -> x.after(7, n));
        }
        int[] noWhats = {LEAST, -1, 4, GREATEST};
        for (int what : noWhats) {
            refused("13: ends, what " + what, NO_SUCH, x -> x.ends(7, what));
        }
    }

    private static void rounds() {
        int[] noWhats = {LEAST, -1, 4, GREATEST};
        for (int what : noWhats) {
            refused("14: rounds, what " + what, NO_SUCH, x -> x.rounds(what));
            refused("15: round, what " + what, NO_SUCH, x -> x.round(0, what));
        }
        int[] noRounds = {LEAST, -1, 1, 100, GREATEST};
        for (int i : noRounds) {
            for (int k = 0; k < 4; k++) {
                int what = k;
                refused("15: round " + i + ", what " + what, NONE, x -> x.round(i, what));
            }
            refused("16: on round " + i, NONE, x -> x.on(i, 0));
        }
        int[] noPlaces = {LEAST, -1, 100, GREATEST};
        for (int k : noPlaces) {
            refused("16: on, number " + k, NONE, x -> x.on(0, k));
        }
        int[] noMosts = {LEAST, -1, 3, GREATEST};
        for (int what : noMosts) {
            refused("17: most, what " + what, NO_SUCH, x -> x.most(what));
        }
        refused("18: take, n is below 0", NO_SUCH, x -> x.take(-1));
        refused("18: take, n is below 0", NO_SUCH, x -> x.take(LEAST));
    }

    private static void gardensAndBack() {
        int[] noGardens = {LEAST, -1, 0, 1, GREATEST};
        for (int i : noGardens) {
            refused("20: garden " + i, NONE, x -> x.garden(i));
        }
        refused("21: from, not so many", NONE, x -> x.from(7, 1));
        refused("21: from, not so many", NONE, x -> x.from(7, GREATEST));
        refused("21: from, what is less than NONE", NO_SUCH, x -> x.from(7, -2));
        refused("21: from, what is less than NONE", NO_SUCH, x -> x.from(7, LEAST));
        int[] noGoes = {LEAST, -1, 201, GREATEST};
        for (int n : noGoes) {
            refused("22: back " + n, NO_SUCH, x -> x.back(7, n));
        }
        for (int no : NO_NUMBERS) {
            refused("21: from " + no, NO_SUCH, x -> x.from(no, NONE));
            refused("21: from " + no + ", the first", NO_SUCH, x -> x.from(no, 0));
            refused("22: back of " + no, NO_SUCH, x -> x.back(no, 0));
        }
    }

    private static void pairs() {
        for (int no : NO_NUMBERS) {
            refused("23: meet " + no, NO_SUCH, x -> x.meet(no, 7));
            refused("23: meet y " + no, NO_SUCH, x -> x.meet(7, no));
            refused("24: join " + no, NO_SUCH, x -> x.join(no, 7, 0));
            refused("24: join y " + no, NO_SUCH, x -> x.join(7, no, 0));
        }
        refused("23: meet, both are none", NO_SUCH, x -> x.meet(100, 100));
        refused("24: join, both are none", NO_SUCH, x -> x.join(-1, -1, 0));
        refused("23: meet, never", NONE, x -> x.meet(7, 8));
        int[] noWhats = {LEAST, -1, 3, GREATEST};
        for (int what : noWhats) {
            refused("24: join, what " + what, NO_SUCH, x -> x.join(7, 8, what));
        }
    }

    private static void kinds() {
        for (int no : NO_NUMBERS) {
            refused("26: kind of " + no, NO_SUCH, x -> x.kind(no, 0));
            refused("26: how many of the kind of " + no, NO_SUCH, x -> x.kind(no, 1));
        }
        int[] noWhats = {LEAST, -1, 2, GREATEST};
        for (int what : noWhats) {
            refused("26: kind, what " + what, NO_SUCH, x -> x.kind(7, what));
        }
    }

    private static void crowds() {
        int[] noCrowds = {LEAST, -1, 4, GREATEST};
        for (int crowd : noCrowds) {
            refused("28: sure, crowd " + crowd, NO_SUCH, x -> x.sure(crowd, 0, 0));
            refused("29: fewest, crowd " + crowd, NO_SUCH, x -> x.fewest(crowd, 0));
            refused("30: left, crowd " + crowd, NO_SUCH, x -> x.left(crowd, 0));
            refused("31: rest, crowd " + crowd, NO_SUCH, x -> x.rest(crowd, 0));
            refused("32: out, crowd " + crowd, NO_SUCH, x -> x.out(crowd, 0, 0));
        }
        int[] noGoes = {LEAST, -1, 201, GREATEST};
        for (int n : noGoes) {
            refused("28: sure behind " + n, NO_SUCH, x -> x.sure(3, n, 0));
            refused("30: left behind " + n, NO_SUCH, x -> x.left(3, n));
            refused("31: rest behind " + n, NO_SUCH, x -> x.rest(3, n));
            refused("32: out behind " + n, NO_SUCH, x -> x.out(3, n, 0));
        }
        int[] noPlaces = {LEAST, -1, 2, GREATEST};
        for (int place : noPlaces) {
            refused("28: sure at place " + place, NO_SUCH, x -> x.sure(3, 0, place));
            refused("29: fewest at place " + place, NO_SUCH, x -> x.fewest(3, place));
        }
    }

    private static void left() {
        refused("28: sure, not the same", NONE, x -> x.sure(0, 0, 0));
        refused("29: fewest, none", NONE, x -> x.fewest(0, 0));
        refused("31: rest, none", NONE, x -> x.rest(0, 0));
        int[] noLess = {LEAST, -1, 10, 100, GREATEST};
        for (int told : noLess) {
            refused("32: out, no number of one figure less " + told, NO_SUCH, x -> x.out(3, 0, told));
        }
    }

    private static void slips() {
        for (int no : NO_NUMBERS) {
            refused("33: slip of " + no, NO_SUCH, x -> x.slip(no, 0, 0));
            refused("34: fits of " + no, NO_SUCH, x -> x.fits(no, 7));
            refused("34: fits to " + no, NO_SUCH, x -> x.fits(7, no));
            refused("35: which of " + no, NO_SUCH, x -> x.which(no, 7));
            refused("35: which to " + no, NO_SUCH, x -> x.which(7, no));
        }
        int[] noWords = {LEAST, -1, 1, GREATEST};
        for (int no : noWords) {
            refused("33: slip at word " + no, NO_SUCH, x -> x.slip(7, no, 0));
            refused("33: slip " + no, NO_SUCH, x -> x.slip(7, 0, no));
        }
        refused("35: which, none", NONE, x -> x.which(7, 8));
    }

    private static void finds() {
        for (int no : NO_NUMBERS) {
            refused("36: find from " + no, NO_SUCH, x -> x.find(no, 7));
            refused("36: find to " + no, NO_SUCH, x -> x.find(7, no));
            refused("37: found from " + no, NO_SUCH, x -> x.found(no, 7, 0));
            refused("37: found to " + no, NO_SUCH, x -> x.found(7, no, 0));
        }
        refused("36: find, three do not", NONE, x -> x.find(0, 1));
        refused("37: found, three do not", NONE, x -> x.found(0, 1, 0));
        int[] noWords = {LEAST, -1, 1, GREATEST};
        for (int i : noWords) {
            refused("37: found, word " + i, NONE, x -> x.found(12, 21, i));
        }
    }

    private static void bestAndEvening() {
        int[] noCounts = {LEAST, -1, 0, 3, GREATEST};
        for (int n : noCounts) {
            refused("38: best of " + n, NO_SUCH, x -> x.best(n, 0));
        }
        int[] noWhats = {LEAST, -1, 3, GREATEST};
        for (int what : noWhats) {
            refused("38: best, what " + what, NO_SUCH, x -> x.best(1, what));
            refused("39: evening, what " + what, NO_SUCH, x -> x.evening(0, 1, what));
        }
        int[] noSeeds = {LEAST, -1, 2000000001, GREATEST};
        for (int seed : noSeeds) {
            refused("39: evening, seed " + seed, NO_SUCH, x -> x.evening(seed, 1, 0));
        }
        int[] noDrawn = {LEAST, -1, 0, 101, GREATEST};
        for (int n : noDrawn) {
            refused("39: evening, n " + n, NO_SUCH, x -> x.evening(0, n, 0));
        }
    }

    private static void judgeAndCount() {
        int[] noSlots = {LEAST, -1, 4, GREATEST};
        for (int slot : noSlots) {
            refused("40: judge " + slot, NO_SUCH, x -> x.judge(slot));
        }
        refused("40: judge, it has nothing", -6, x -> x.judge(3));
        int[] noWhats = {LEAST, -1, 8, GREATEST};
        for (int what : noWhats) {
            refused("41: count " + what, NONE, x -> x.count(what));
        }
        int[] noTold = {LEAST, -1, 2, GREATEST};
        for (int i : noTold) {
            refused("42: told " + i, NONE, x -> x.told(i));
        }
    }

    private static void images() {
        int[] noImages = {LEAST, -1, 3, GREATEST};
        for (int k : noImages) {
            refused("43: keep " + k, NO_SUCH, x -> x.keep(k));
            refused("44: restore " + k, NO_SUCH, x -> x.restore(k));
        }
        refused("44: restore, it has nothing", -6, x -> x.restore(2));
    }

    private static void rows() {
        int[] no = {LEAST, -1, 4, GREATEST};
        for (int i : no) {
            refused("45: row, slot " + i, NO_SUCH, x -> x.row(i, 0, 0));
            refused("45: row, width " + i, NO_SUCH, x -> x.row(0, i, 0));
            refused("45: row, slot " + i + ", n below 0", NO_SUCH, x -> x.row(i, 0, -1));
            refused("45: row, width " + i + ", n below 0", NO_SUCH, x -> x.row(0, i, -1));
        }
        refused("45: row, n is above 60", NO_SUCH, x -> x.row(0, 1, 61));
        refused("45: row, n is above 60", NO_SUCH, x -> x.row(0, 1, GREATEST));
        refused("45: row, n is above 60, of no row yet", NO_SUCH, x -> x.row(3, 1, 61));
        refused("45: row, n is below 0", -3, x -> x.row(0, 1, -1));
        refused("45: row, n is below 0", -3, x -> x.row(0, 1, LEAST));
        refused("45: row, n is below 0, of no row yet", -3, x -> x.row(3, 1, -1));
    }

    private static void writes() {
        int[] noSlots = {LEAST, -1, 4, GREATEST};
        for (int slot : noSlots) {
            refused("46: write, slot " + slot, NO_SUCH, x -> x.write(slot, 0, 9));
        }
        refused("46: write, it has nothing", -6, x -> x.write(3, 0, 9));
        refused("46: write, it has nothing, nor such a number", -6, x -> x.write(3, -1, 9));
        int[] noNumbers = {LEAST, -1, 3, 59, 60, GREATEST};
        for (int i : noNumbers) {
            refused("46: write, number " + i, -7, x -> x.write(0, i, 9));
        }
        refused("46: write, a row without numbers", -7, x -> x.write(2, 0, 9));
    }

    private static void pastes() {
        int[] noSlots = {LEAST, -1, 4, GREATEST};
        for (int slot : noSlots) {
            refused("47: paste from slot " + slot, NO_SUCH, x -> x.paste(slot, 0, 0, 0, 1));
            refused("47: paste to slot " + slot, NO_SUCH, x -> x.paste(0, 0, slot, 0, 1));
            refused("47: paste to slot " + slot + " from nothing", NO_SUCH, x -> x.paste(3, 0, slot, 0, 1));
        }
        refused("47: paste, one has nothing", -6, x -> x.paste(3, 0, 0, 0, 0));
        refused("47: paste, the other has nothing", -6, x -> x.paste(0, 0, 3, 0, 0));
        refused("47: paste, both have nothing", -6, x -> x.paste(3, 0, 3, 0, 0));
        refused("47: paste, not of one width", -8, x -> x.paste(0, 0, 1, 0, 1));
        refused("47: paste, not of one width, of none", -8, x -> x.paste(1, 0, 0, 0, 0));
        refused("47: paste, not of one width, and beyond", -8, x -> x.paste(0, 0, 1, 0, 99));
        int[][] beyond = {{0, 0, 0, 0, 4}, {0, 1, 0, 0, 3}, {0, 0, 0, 1, 3}, {0, 3, 0, 0, 1}, {0, 0, 0, 3, 1},
                {0, 0, 2, 0, 1}, {2, 0, 0, 0, 1}, {0, 1, 0, 0, GREATEST}, {0, GREATEST, 0, 0, GREATEST},
                {0, 0, 0, GREATEST, 1}};
        int[][] noneBeyond = {{0, 4, 0, 0, 0}, {0, 0, 0, 4, 0}, {2, 1, 0, 0, 0}, {0, 0, 2, 1, 0}, {0, GREATEST, 0, 0, 0}};
        int[][] below = {{0, -1, 0, 0, 1}, {0, 0, 0, -1, 1}, {0, 1, 0, 0, -1}, {0, 0, 0, 0, LEAST}, {0, LEAST, 0, 0, 0},
                {0, 0, 0, LEAST, 0}, {0, -1, 0, 0, 0}, {0, 0, 0, -1, 0}};
        for (int[] row : beyond) {
            refused("47: paste, some are beyond", -7, x -> x.paste(row[0], row[1], row[2], row[3], row[4]));
        }
        for (int[] row : noneBeyond) {
            refused("47: paste, none from beyond", -7, x -> x.paste(row[0], row[1], row[2], row[3], row[4]));
        }
        for (int[] row : below) {
            refused("47: paste, below 0", -7, x -> x.paste(row[0], row[1], row[2], row[3], row[4]));
        }
    }

    private static void noTable(String label, ToLongFunction<UpAndDown> call) {
        Rich.leaves(DUE, Rich::makeWithoutTable, label + " without a table", NO_SUCH, call);
    }

    private static void withoutTable() {
        noTable("6: word", x -> x.word(0, 0));
        noTable("7: turn", x -> x.turn(0, 0, 0));
        noTable("8: size", x -> x.size());
        noTable("9: figure", x -> x.figure(0, 0));
        noTable("10: next", x -> x.next(0));
        noTable("11: through", x -> x.through(0, 0));
        noTable("12: after", x -> x.after(0, 0));
        noTable("13: ends", x -> x.ends(0, 0));
        for (int i = 0; i < 4; i++) {
            int what = i;
            noTable("14: rounds", x -> x.rounds(what));
            noTable("15: round", x -> x.round(0, what));
        }
        noTable("15: round, none such", x -> x.round(-1, 0));
        noTable("16: on", x -> x.on(0, 0));
        noTable("16: on, none such", x -> x.on(-1, -1));
        noTable("17: most", x -> x.most(0));
        noTable("17: most", x -> x.most(2));
        noTable("18: take", x -> x.take(0));
        noTable("19: gardens", x -> x.gardens());
        noTable("20: garden", x -> x.garden(0));
        noTable("20: garden, none such", x -> x.garden(-1));
        noTable("21: from", x -> x.from(0, NONE));
        noTable("22: back", x -> x.back(0, 0));
        noTable("23: meet", x -> x.meet(0, 0));
        noTable("24: join", x -> x.join(0, 0, 0));
        noTable("25: kinds", x -> x.kinds());
        noTable("26: kind", x -> x.kind(0, 0));
        noTable("27: odd", x -> x.odd());
    }

    private static void withoutTableBelow() {
        for (int i = 0; i < 4; i++) {
            int crowd = i;
            noTable("28: sure", x -> x.sure(crowd, 0, 0));
            noTable("29: fewest", x -> x.fewest(crowd, 0));
            noTable("30: left", x -> x.left(crowd, 0));
            noTable("31: rest", x -> x.rest(crowd, 0));
            noTable("32: out", x -> x.out(crowd, 0, 0));
            noTable("40: judge", x -> x.judge(crowd));
        }
        noTable("33: slip", x -> x.slip(0, 0, 0));
        noTable("34: fits", x -> x.fits(0, 0));
        noTable("35: which", x -> x.which(0, 0));
        noTable("36: find", x -> x.find(0, 0));
        noTable("37: found", x -> x.found(0, 0, 0));
        noTable("37: found, not so many", x -> x.found(0, 0, -1));
        noTable("38: best", x -> x.best(1, 0));
        noTable("38: best", x -> x.best(2, 2));
        noTable("39: evening", x -> x.evening(0, 1, 0));
    }
}
