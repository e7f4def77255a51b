/** Term I and promises 1 to 5 and 8, sentence by sentence: each bound, and just beyond it. */
public final class EdgesOfTablesTest {
    private static final Due DUE = new Due();
    private static final String HEAD = "table base 10 long 4;";

    public static void main(String[] args) {
        newObject();
        feedToTheBrim();
        feedsBytes();
        ends();
        tables();
        oneBehindAnother();
        faultsOfTables();
        latestFault();
        fullTapes();
        cutOff();
        tableComesFirst();
        basesAndLongs();
        longBeyond();
        doingOnce();
        words();
        numbersOfWords();
        toldNumbers();
        slips();
        numbered();
        blanksAndStrangeBytes();
        bytesInWords();
        longestTokens();
        firstByPlace();
        leastOfOnePlace();
        tooMany();
        endsOfTapes();
        DUE.end("EdgesOfTablesTest");
    }

    private static String many(String one, int n) {
        StringBuilder made = new StringBuilder();
        for (int i = 0; i < n; i++) {
            made.append(one);
        }
        return made.toString();
    }

    private static void fine(String label, String text, int lines) {
        UpAndDown x = new UpAndDown();
        String call = label + ": " + text;
        DUE.is(call, Due.table(x, text), lines);
        DUE.is(call + ", its fault", x.fault(0), 0);
        DUE.is(call + ", its place", x.fault(1), -1);
        DUE.is(call + ", the tape", x.count(6), 0);
        DUE.is(call + ", its lines", x.count(5), lines);
    }

    /** The table ahead of it stays. */
    private static void fault(String label, String text, int fault, int place) {
        UpAndDown x = Due.of("table base 3 long 2;doing plus 1;number 4;");
        String call = label + ": " + text;
        DUE.is(call, Due.table(x, text), -4);
        DUE.is(call + ", its fault", x.fault(0), fault);
        DUE.is(call + ", its place", x.fault(1), place);
        DUE.is(call + ", the tape", x.count(6), 0);
        DUE.is(call + ", the table", x.size(), 9);
        DUE.is(call + ", its doing", x.next(4), 5);
        DUE.is(call + ", its number", x.told(0), 4);
    }

    private static void newObject() {
        DUE.is("NONE", UpAndDown.NONE, -1);
        UpAndDown x = new UpAndDown();
        DUE.is("1: no table", x.size(), -2);
        for (int what = 0; what < 8; what++) {
            DUE.is("1: count " + what, x.count(what), 0);
        }
        for (int k = 0; k < 3; k++) {
            DUE.is("1: an image has nothing", x.restore(k), -6);
        }
        for (int slot = 0; slot < 4; slot++) {
            DUE.is("1: a slot has nothing", x.write(slot, 0, 1), -6);
            DUE.is("1: a slot has nothing", x.paste(slot, 0, slot, 0, 0), -6);
        }
        DUE.is("1: nothing is told", x.told(0), -1);
        DUE.is("5: the fault ahead of any", x.fault(0), 0);
        DUE.is("5: the place ahead of any", x.fault(1), -1);
        DUE.is("5: another what ahead of any", x.fault(2), -1);
        DUE.is("3: all of nothing", x.end(0), 0);
        DUE.is("3: one of nothing", x.end(1), -1);
        DUE.is("4: of nothing", x.table(), 0);
    }

    private static void feedToTheBrim() {
        UpAndDown x = new UpAndDown();
        for (int i = 1; i <= 40; i++) {
            DUE.is("2: twenty bytes come", x.feed(0, 0, 0, 0, 0), 20 * i);
            DUE.is("2: how many it has", x.count(6), 20 * i);
        }
        DUE.is("2: more than 800", x.feed(0, 0, 0, 0, 0), -1);
        DUE.is("2: none come", x.count(6), 800);
        DUE.is("3: back to 781", x.end(781), 781);
        DUE.is("2: 801 of them", x.feed(0, 0, 0, 0, 0), -1);
        DUE.is("2: none come", x.count(6), 781);
        DUE.is("3: back to 780", x.end(780), 780);
        DUE.is("2: 800 of them", x.feed(0, 0, 0, 0, 0), 800);
        UpAndDown y = new UpAndDown();
        DUE.is("2: one byte alone", y.feed(0, 0, 0, 0, 0), 20);
        DUE.is("3: one byte alone", y.end(1), 1);
        DUE.is("2: behind one byte", y.feed(0, 0, 0, 0, 0), 21);
    }

    /** A sign alone, at each of the twenty places, and a byte of more than 127 there. */
    private static void feedsBytes() {
        for (int i = 0; i < 20; i++) {
            int[] blanks = {0x20202020, 0x20202020, 0x20202020, 0x20202020, 0x20202020};
            int shift = 24 - i % 4 * 8;
            blanks[i / 4] = blanks[i / 4] & ~(255 << shift) | 200 << shift;
            UpAndDown x = new UpAndDown();
            x.feed(blanks[0], blanks[1], blanks[2], blanks[3], blanks[4]);
            DUE.is("2: byte " + i, x.table(), -4);
            DUE.is("2: byte " + i + ", the highest first", x.fault(1), i);
        }
        UpAndDown y = new UpAndDown();
        y.feed(0x7461626c, 0x65206261, 0x73652037, 0x206c6f6e, 0x6720323b);
        DUE.is("2: table base 7 long 2;", y.table(), 1);
        DUE.is("2: base", y.count(0), 7);
        DUE.is("2: long", y.count(1), 2);
    }

    private static void ends() {
        UpAndDown x = new UpAndDown();
        Due.feed(x, HEAD);
        DUE.is("3: just so many", x.end(21), 21);
        DUE.is("3: one more", x.end(22), -1);
        DUE.is("3: below 0", x.end(-1), -1);
        DUE.is("3: nothing happens", x.count(6), 21);
        DUE.is("3: one less", x.end(20), 20);
        DUE.is("3: not so many now", x.end(21), -1);
        Due.feed(x, " ;doing turn;");
        DUE.is("3: what comes then stands there", x.table(), 2);
        DUE.is("3: what comes then stands there", x.next(12), 2100);
        Due.feed(x, HEAD);
        DUE.is("3: none of it", x.end(0), 0);
        DUE.is("3: none of it", x.table(), 0);
    }

    private static void tables() {
        UpAndDown x = Due.of(HEAD + "doing turn;number 1;slip up for turn;");
        DUE.is("4: lines", x.count(5), 4);
        DUE.is("4: the tape is empty then", x.count(6), 0);
        DUE.is("4: in place of another", Due.table(x, "table base 2 long 1;"), 1);
        int[] due = {2, 1, 0, 0, 0, 1, 0, 0};
        for (int what = 0; what < 8; what++) {
            DUE.is("4: nothing of the other is left, count " + what, x.count(what), due[what]);
        }
        DUE.is("4: nothing of the other is left", x.told(0), -1);
        DUE.is("4: nothing of the other is left", x.word(0, 0), -2);
        DUE.is("4: an empty tape", x.table(), 0);
        DUE.is("4: there is none then", x.size(), -2);
        for (int what = 0; what < 8; what++) {
            DUE.is("4: there is none then, count " + what, x.count(what), 0);
        }
        fine("4: blanks alone", " \n", 0);
        fine("4: the most lines", HEAD + "doing up;" + many("number 1;", 20) + many("slip up for up;", 6), 28);
    }

    /** A table's slips, figures and rounds are its own, be base, long, both or neither as they were. */
    private static void oneBehindAnother() {
        UpAndDown x = Due.of(HEAD + "doing down;slip up for turn;slip turn for down;");
        DUE.is("4: next", x.next(3201), 3210);
        DUE.is("4: rests", x.rounds(1), 715);
        DUE.is("33: slip", x.slip(3201, 0, 1), 1023);
        Due.table(x, "table base 10 long 2;doing down;slip up for down;");
        DUE.is("4: the same base", x.next(1), 10);
        DUE.is("4: the same base, rests", x.rounds(1), 55);
        DUE.is("33: the same base, its slip", x.slip(10, 0, 0), 1);
        DUE.is("33: no slip of the other", x.slip(10, 0, 1), -2);
        Due.table(x, "table base 4 long 2;doing down;");
        DUE.is("4: the same long", x.next(1), 4);
        DUE.is("4: the same long, rests", x.rounds(1), 10);
        DUE.is("33: no slip of the others", x.slip(1, 0, 0), -2);
        Due.table(x, "table base 4 long 2;doing up;number 4;");
        DUE.is("4: the same base and long", x.next(4), 1);
        DUE.is("4: the same base and long, its crowd", x.sure(3, 1, 1), 1);
        DUE.is("4: the same base and long, gardens", x.garden(0), 4);
        Due.table(x, "table base 10 long 4;");
        DUE.is("4: as at first", x.next(3201), 3201);
        DUE.is("4: as at first, rests", x.rounds(1), 10000);
        DUE.is("26: as at first, kinds", x.kind(3201, 0), 123);
    }

    private static void faultsOfTables() {
        UpAndDown x = Rich.make();
        java.util.List<Long> before = Rich.seen(x);
        DUE.is("4: a fault, the tape cut off", x.table(), -4);
        java.util.List<Long> behind = Rich.seen(x);
        DUE.is("4: the tape is empty", behind.get(6), 0);
        DUE.is("4: its fault", behind.get(8), 1);
        DUE.is("4: its place", behind.get(9), 10);
        for (int i = 0; i < before.size(); i++) {
            if (i != 6 && i != 8 && i != 9) {
                DUE.is("4: all else stays, " + i, behind.get(i), before.get(i));
            }
        }
        DUE.is("4: the images stay", x.restore(0), 0);
        DUE.is("4: the images stay", x.size(), 9);
        DUE.is("4: the images stay", x.next(5), 7);
        UpAndDown y = new UpAndDown();
        DUE.is("4: a fault of the first", Due.table(y, "table"), -4);
        DUE.is("4: no table stays", y.size(), -2);
        DUE.is("4: no lines stay", y.count(5), 0);
    }

    private static void latestFault() {
        UpAndDown x = new UpAndDown();
        Due.table(x, "table base 1 long 1;");
        DUE.is("5: fault", x.fault(0), 2);
        DUE.is("5: place", x.fault(1), 11);
        Due.table(x, ";");
        DUE.is("5: of the latest", x.fault(0), 1);
        DUE.is("5: place of the latest, the first byte", x.fault(1), 0);
        x.restore(0);
        x.feed(0, 0, 0, 0, 0);
        DUE.is("5: still of the latest", x.fault(0), 1);
        x.end(0);
        x.table();
        DUE.is("5: without", x.fault(0), 0);
        DUE.is("5: place without", x.fault(1), -1);
    }

    private static void fullTapes() {
        String text = HEAD + many(" ", 800 - 21 - 10) + "\ndoing up;";
        DUE.is("2: 800 bytes", text.length(), 800);
        fine("4: a full tape", text, 2);
        fault("4: a full tape, its last byte wrong", text.substring(0, 799) + "?", 1, 799);
        fault("4: a full tape, not ended", text.substring(0, 799) + " ", 1, 800);
        UpAndDown x = new UpAndDown();
        Due.feed(x, text);
        DUE.is("2: one more", x.feed(0x3f3f3f3f, 0, 0, 0, 0), -1);
        DUE.is("2: what is there stays", x.table(), 2);
        DUE.is("2: what is there stays", x.next(3201), 123);
    }

    /** Each place where a text may be cut off: between words, in a word, in a number. */
    private static void cutOff() {
        String text = HEAD + "doing times 17 up;slip out 3 for plus 25;number 1204;";
        int start = 0;
        int lines = 0;
        for (int n = 1; n <= text.length(); n++) {
            char last = text.charAt(n - 1);
            char before = n > 1 ? text.charAt(n - 2) : ' ';
            start = Character.isLetter(before) && Character.isLetter(last) ? start : n - 1;
            String cut = text.substring(0, n);
            boolean inWord = n < text.length() && Character.isLetter(last) && Character.isLetter(text.charAt(n));
            if (last == ';') {
                fine("4: cut off behind a line", cut, ++lines);
            } else if (n == 12) {
                fault("4: cut off in the base", cut, 2, 11);
            } else {
                fault("4: cut off", cut, 1, inWord ? start : n);
            }
        }
        DUE.is("4: lines", lines, 4);
    }

    private static void tableComesFirst() {
        fault("I: a table first", "doing up;", 1, 0);
        fault("I: a table first", "number 0;", 1, 0);
        fault("I: a table first", "slip up for down;", 1, 0);
        fault("I: a table first", ";", 1, 0);
        fault("I: a table first", "10", 1, 0);
        fault("I: a table first, behind blanks", "\n  up", 1, 3);
        fault("I: no other one", HEAD + HEAD, 1, 21);
        fault("I: no other one", HEAD + "doing up;" + HEAD, 1, 30);
        fault("I: no other word", HEAD + "long 4;", 1, 21);
        fault("I: no line of nothing", HEAD + ";", 1, 21);
        fine("I: the table alone", HEAD, 1);
        String[] lines = {"doing up;", "number 1;", "slip up for up;"};
        for (String line : lines) {
            for (int k = 0; k < line.indexOf(' '); k++) {
                fault("I: another letter", HEAD + line.substring(0, k) + "z" + line.substring(k + 1), 1, 21);
            }
        }
        for (int k = 0; k < 5; k++) {
            fault("I: another letter", HEAD.substring(0, k) + "z" + HEAD.substring(k + 1), 1, 0);
        }
        for (int k = 0; k < 4; k++) {
            fault("I: another letter", HEAD.substring(0, 6 + k) + "z" + HEAD.substring(7 + k), 1, 6);
            fault("I: another letter", HEAD.substring(0, 14 + k) + "z" + HEAD.substring(15 + k), 1, 14);
        }
        for (int k = 0; k < 3; k++) {
            String slip = "slip up for up;";
            fault("I: another letter", HEAD + slip.substring(0, 8 + k) + "z" + slip.substring(9 + k), 1, 29);
        }
    }

    private static void basesAndLongs() {
        int[] most = {0, 0, 8, 8, 6, 5, 5, 4, 4, 4, 4, 3, 3, 3, 3, 3, 3};
        for (int base = 2; base <= 16; base++) {
            String head = "table base " + base + " long ";
            int place = head.length();
            fault("I: long 0", head + "0;", 2, place);
            int size = 1;
            for (int length = 1; length <= most[base]; length++) {
                size *= base;
                UpAndDown x = new UpAndDown();
                DUE.is("I: " + head + length, Due.table(x, head + length + ";"), 1);
                DUE.is("8: size of " + head + length, x.size(), size);
                DUE.is("41: base of " + head + length, x.count(0), base);
                DUE.is("41: long of " + head + length, x.count(1), length);
            }
            fault("I: long beyond", head + (most[base] + 1) + ";", 2, place);
        }
        fault("I: base 1", "table base 1 long 1;", 2, 11);
        fault("I: base 0", "table base 0 long 1;", 2, 11);
        fault("I: base 17", "table base 17 long 1;", 2, 11);
        fault("I: a base of many figures", "table base 18446744073709551618 long 1;", 2, 11);
        fault("I: base 17 stands ahead of long 9", "table base 17 long 9;", 2, 11);
    }

    private static void longBeyond() {
        fine("I: 10,000", "table base 10 long 4;", 1);
        fault("I: 16,807", "table base 7 long 5;", 2, 18);
        fault("I: 19,683, long beyond 8 too", "table base 3 long 9;", 2, 18);
        fault("I: 512, but long 9", "table base 2 long 9;", 2, 18);
        fault("I: 65,536", "table base 16 long 4;", 2, 19);
        fault("I: 4,294,967,296", "table base 16 long 8;", 2, 19);
        fault("I: a long of many figures", "table base 2 long 4294967297;", 2, 18);
        fault("I: no long", "table base 2 long ;", 1, 18);
        fault("I: no base", "table base long 2;", 1, 11);
        fault("I: long ahead of base", "table long 2 base 2;", 1, 6);
        fault("I: more behind long", "table base 2 long 2 2;", 1, 20);
    }

    private static void doingOnce() {
        fine("I: no doing", HEAD, 1);
        DUE.is("I: none without it", Due.of(HEAD).count(2), 0);
        fine("I: one doing", HEAD + "doing up;", 2);
        fine("I: doing behind others", HEAD + "number 1;slip up for up;doing up;number 2;", 5);
        fault("I: doing told already", HEAD + "doing up;doing down;", 2, 30);
        fault("I: doing told already", HEAD + "doing up;number 1;doing down;", 2, 39);
        fault("I: doing told already, cut off", HEAD + "doing up;doing", 2, 30);
        fault("I: a doing has a word", HEAD + "doing;", 1, 26);
        fault("I: a doing has words alone", HEAD + "doing 1;", 1, 27);
        fault("I: a doing has words alone", HEAD + "doing up for;", 1, 30);
    }

    private static void words() {
        String[] names = {"down", "up", "turn", "keep", "back", "less", "add", "square", "cube", "sum", "half", "first"};
        for (int i = 0; i < names.length; i++) {
            UpAndDown x = Due.of(HEAD + "doing " + names[i] + ";");
            DUE.is("I: " + names[i], x.word(0, 0), i);
            fault("I: no number behind " + names[i], HEAD + "doing " + names[i] + " 1;", 1, 28 + names[i].length());
            fault("I: no word " + names[i] + "s", HEAD + "doing " + names[i] + "s;", 1, 27);
            fault("I: a word cut off", HEAD + "doing " + names[i].substring(1) + ";", 1, 27);
            for (int k = 0; k < names[i].length(); k++) {
                String other = names[i].substring(0, k) + "z" + names[i].substring(k + 1);
                fault("I: another letter", HEAD + "doing " + other + ";", 1, 27);
            }
        }
        String[] numbered = {"times", "plus", "out"};
        for (int i = 0; i < 3; i++) {
            UpAndDown x = Due.of(HEAD + "doing " + numbered[i] + " 9;");
            DUE.is("I: " + numbered[i], x.word(0, 0), 12 + i);
            DUE.is("I: its number", x.word(0, 1), 9);
            fault("I: a number behind " + numbered[i], HEAD + "doing " + numbered[i] + ";", 1, 27 + numbered[i].length());
            fault("I: one number", HEAD + "doing " + numbered[i] + " 1 2;", 1, 30 + numbered[i].length());
            fault("I: a number behind " + numbered[i], HEAD + "doing " + numbered[i] + " up;", 1, 28 + numbered[i].length());
        }
        fine("I: 12 words", HEAD + "doing" + many(" times 1", 12) + ";", 2);
        DUE.is("I: 12 words", Due.of(HEAD + "doing" + many(" times 1", 12) + ";").count(2), 12);
        fault("I: a 13th word, at it", HEAD + "doing" + many(" times 1", 13) + ";", 3, 26 + 12 * 8 + 1);
    }

    private static void numbersOfWords() {
        String[] bounded = {"times", "plus"};
        for (String name : bounded) {
            int place = 28 + name.length();
            fine("I: 0", HEAD + "doing " + name + " 0;", 2);
            fine("I: 99", HEAD + "doing " + name + " 99;", 2);
            fault("I: 100", HEAD + "doing " + name + " 100;", 2, place);
            fine("I: 0 and 99 of a slip", HEAD + "slip " + name + " 0 for " + name + " 99;", 2);
            fault("I: 100 of a slip", HEAD + "slip " + name + " 100 for up;", 2, place - 1);
            fault("I: 100 of a slip's second", HEAD + "slip up for " + name + " 100;", 2, place + 6);
        }
        for (int base = 2; base <= 16; base++) {
            String head = "table base " + base + " long 3;";
            fine("I: out 0", head + "doing out 0;", 2);
            fine("I: out base less 1", head + "doing out " + (base - 1) + ";", 2);
            fault("I: out base", head + "doing out " + base + ";", 2, head.length() + 10);
            fine("I: out of a slip", head + "slip out " + (base - 1) + " for out 0;", 2);
            fault("I: out of a slip beyond", head + "slip out " + base + " for out 0;", 2, head.length() + 9);
            fault("I: out of a slip's second beyond", head + "slip up for out " + base + ";", 2, head.length() + 16);
        }
    }

    private static void toldNumbers() {
        String[] heads = {"table base 2 long 1;", "table base 2 long 8;", HEAD, "table base 16 long 3;"};
        int[] sizes = {2, 256, 10000, 4096};
        for (int i = 0; i < heads.length; i++) {
            UpAndDown x = Due.of(heads[i] + "number 0;number " + (sizes[i] - 1) + ";");
            DUE.is("I: number 0", x.told(0), 0);
            DUE.is("I: number SIZE less 1", x.told(1), sizes[i] - 1);
            fault("I: number SIZE", heads[i] + "number " + sizes[i] + ";", 2, heads[i].length() + 7);
            fault("I: far beyond", heads[i] + "number 4294967296;", 2, heads[i].length() + 7);
        }
        fault("I: a number behind number", HEAD + "number;", 1, 27);
        fault("I: one number", HEAD + "number 1 2;", 1, 30);
        fault("I: a number behind number", HEAD + "number up;", 1, 28);
    }

    private static void slips() {
        fine("I: a slip", HEAD + "slip up for down;", 2);
        fault("I: a slip has a word", HEAD + "slip;", 1, 25);
        fault("I: a slip has a word", HEAD + "slip for up;", 1, 26);
        fault("I: a slip has one word ahead of for", HEAD + "slip up down for up;", 1, 29);
        fault("I: a slip has for", HEAD + "slip up;", 1, 28);
        fault("I: a slip has two words", HEAD + "slip up for;", 1, 32);
        fault("I: a slip has no more words", HEAD + "slip up for up up;", 1, 36);
        fault("I: a slip has no number", HEAD + "slip 1 for up;", 1, 26);
    }

    /** Numbers and slips by the order in which they stand, not by what they are. */
    private static void numbered() {
        StringBuilder text = new StringBuilder(HEAD).append("doing plus 1;");
        for (int i = 0; i < 6; i++) {
            text.append("slip plus ").append(90 - i).append(" for plus 1;");
        }
        for (int i = 0; i < 20; i++) {
            text.append("number ").append(40 - i).append(";");
        }
        UpAndDown x = Due.of(text.toString());
        for (int i = 0; i < 6; i++) {
            DUE.is("I: slip " + i, x.slip(0, 0, i), 90 - i);
        }
        DUE.is("I: no slip 6", x.slip(0, 0, 6), -2);
        for (int i = 0; i < 20; i++) {
            DUE.is("I: told number " + i, x.told(i), 40 - i);
        }
        DUE.is("I: no told number 20", x.told(20), -1);
        DUE.is("41: slips", x.count(3), 6);
        DUE.is("41: told numbers", x.count(4), 20);
        DUE.is("41: lines", x.count(5), 28);
    }

    /** Behind a whole line, each byte there is. */
    private static void blanksAndStrangeBytes() {
        for (int sign = 0; sign < 256; sign++) {
            String text = HEAD + (char) sign;
            if (sign == 32 || sign == 10) {
                fine("I: a blank " + sign, text, 1);
            } else {
                fault("I: byte " + sign, text, 1, 21);
            }
        }
    }

    /** Between two words, each byte there is: only a blank parts them, a letter goes on with the first. */
    private static void bytesInWords() {
        for (int sign = 0; sign < 256; sign++) {
            String text = HEAD + "doing up" + (char) sign + "down;";
            if (sign == 32 || sign == 10) {
                fine("I: a blank " + sign, text, 2);
            } else if (sign >= 'a' && sign <= 'z') {
                fault("I: a letter " + sign, text, 1, 27);
            } else {
                fault("I: byte " + sign, text, 1, sign == ';' ? 30 : 29);
            }
        }
        for (int sign = 0; sign < 256; sign++) {
            String text = HEAD + "number 7" + (char) sign + ";";
            if (sign == 32 || sign == 10 || sign >= '0' && sign <= '9') {
                fine("I: behind a number " + sign, text, 2);
            } else {
                fault("I: behind a number " + sign, text, 1, sign == ';' ? 30 : 29);
            }
        }
    }

    private static void longestTokens() {
        fine("I: words and numbers part without blanks", "table base10long4;doing times7plus8;", 2);
        fault("I: the longest word", "tablebase 10 long 4;", 1, 0);
        fault("I: the longest word", HEAD + "doingup;", 1, 21);
        fault("I: the longest number", "table base 1 0 long 4;", 2, 11);
        fault("I: the longest number", HEAD + "number 1 2;", 1, 30);
        fine("I: no blank ahead", HEAD + "number12;", 2);
        fault("I: great letters are none", "Table base 10 long 4;", 1, 0);
        fault("I: great letters are none", HEAD + "doing uP;", 1, 27);
        fault("I: no sign ahead of a number", HEAD + "number -1;", 1, 28);
        fault("I: no sign ahead of a number", HEAD + "number +1;", 1, 28);
        fine("I: noughts ahead", "table base 010 long 04;number 0000000000000000000000000009999;", 2);
    }

    private static void firstByPlace() {
        fault("I: the first by its place, 2 ahead of 1", HEAD + "doing times 100 ?;", 2, 33);
        fault("I: the first by its place, 1 ahead of 2", HEAD + "doing ? times 100;", 1, 27);
        fault("I: the first by its place, 3 ahead of 2", HEAD + "doing" + many(" up", 13) + " out 10;", 3, 63);
        fault("I: the first by its place, 2 ahead of 3", HEAD + "doing out 10" + many(" up", 13) + ";", 2, 31);
        fault("I: the first by its place, 1 ahead of 3", HEAD + "doing 5" + many(" up", 13) + ";", 1, 27);
        fault("I: a token's first byte", HEAD + "doing     downn;", 1, 31);
        fault("I: a number's first byte", HEAD + "number\n\n12345;", 2, 29);
    }

    private static void leastOfOnePlace() {
        fault("I: 1 and 2, doing where none can stand", HEAD + "doing up doing down;", 1, 30);
        fault("I: 1 and 2, a number beyond where none can stand", HEAD + "doing up 100;", 1, 30);
        fault("I: 1 and 3, no word in the 13th's place", HEAD + "doing" + many(" up", 12) + " upp;", 1, 63);
        fault("I: 1 and 3, a number in the 13th's place", HEAD + "doing" + many(" up", 12) + " 7;", 1, 63);
        fault("I: 1 and 3, a slip where none can stand", HEAD + many("slip up for up;", 5) + "slip up for up slip", 1, 111);
        fault("I: 1 and 3, a number where none can stand", HEAD + many("number 1;", 19) + "number 1 number", 1, 201);
    }

    private static void tooMany() {
        fine("I: 6 slips", HEAD + many("slip up for up;", 6), 7);
        fault("I: a 7th slip, at its word", HEAD + many("slip up for up;", 7), 3, 111);
        fault("I: a 7th slip, whatever follows", HEAD + many("slip up for up;", 6) + "slip ?", 3, 111);
        fault("I: a 7th slip, cut off", HEAD + many("slip up for up;", 6) + "slip", 3, 111);
        fine("I: 20 numbers", HEAD + many("number 1;", 20), 21);
        fault("I: a 21st number, at its word", HEAD + many("number 1;", 21), 3, 201);
        fault("I: a 21st number, beyond its bounds", HEAD + many("number 1;", 20) + "number 10000;", 3, 201);
        fault("I: a 13th word, its number beyond", HEAD + "doing" + many(" up", 12) + " out 10;", 3, 63);
        fault("I: a 13th word, cut off", HEAD + "doing" + many(" up", 12) + " up", 3, 63);
        fine("I: 6 slips and 20 numbers, mixed", HEAD + many("number 1;slip up for up;", 6) + many("number 2;", 14), 27);
    }

    private static void endsOfTapes() {
        fault("I: the end's place", "table", 1, 5);
        fault("I: the end's place, behind blanks", "table \n ", 1, 8);
        fault("I: the end's place, behind a whole number", HEAD + "number 7", 1, 29);
        fault("I: the end's place, behind a number beyond", HEAD + "number 77777", 2, 28);
        fault("I: the end's place, 12 words", HEAD + "doing" + many(" up", 12), 1, 62);
    }
}
