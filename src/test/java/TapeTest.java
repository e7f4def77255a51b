/** Promises 1 to 5: a new object, the tape, reading a table, and its faults. */
public final class TapeTest {
    private static final Due DUE = new Due();
    private static final String HEAD = "table base 10 long 4;";

    public static void main(String[] args) {
        newObject();
        tape();
        tables();
        faultAnswers();
        tokens();
        grammar();
        bounds();
        toldAlready();
        tooMany();
        firstFault();
        DUE.end("TapeTest");
    }

    private static void newObject() {
        UpAndDown x = new UpAndDown();
        DUE.is("size", x.size(), -2);
        DUE.is("next", x.next(0), -2);
        for (int what = 0; what < 8; what++) {
            DUE.is("count " + what, x.count(what), 0);
        }
        DUE.is("fault 0", x.fault(0), 0);
        DUE.is("fault 1", x.fault(1), -1);
    }

    private static void tape() {
        UpAndDown x = new UpAndDown();
        for (int i = 1; i <= 40; i++) {
            DUE.is("feed " + i, x.feed(-1, 2, 3, 4, 5), 20 * i);
        }
        DUE.is("feed beyond 800", x.feed(1, 2, 3, 4, 5), -1);
        DUE.is("count 6", x.count(6), 800);
        DUE.is("end 801", x.end(801), -1);
        DUE.is("end -1", x.end(-1), -1);
        DUE.is("count 6", x.count(6), 800);
        DUE.is("end 781", x.end(781), 781);
        DUE.is("feed beyond", x.feed(1, 2, 3, 4, 5), -1);
        DUE.is("end 780", x.end(780), 780);
        DUE.is("feed to the brim", x.feed(1, 2, 3, 4, 5), 800);
        DUE.is("end 0", x.end(0), 0);
        DUE.is("end 0 again", x.end(0), 0);
        DUE.is("end 1", x.end(1), -1);
        DUE.is("table", x.table(), 0);

        UpAndDown y = new UpAndDown();
        // "table base 7 long 2;" is twenty bytes: the highest byte of each number comes first.
        DUE.is("feed", y.feed(0x7461626c, 0x65206261, 0x73652037, 0x206c6f6e, 0x6720323b), 20);
        DUE.is("table", y.table(), 1);
        DUE.is("size", y.size(), 49);
        DUE.is("tape is empty", y.count(6), 0);

        UpAndDown z = new UpAndDown();
        Due.feed(z, "table base 3 ");
        Due.feed(z, "long 2; rubbish");
        DUE.is("end", z.end(20), 20);
        DUE.is("table", z.table(), 1);
        DUE.is("size", z.size(), 9);
    }

    private static void tables() {
        UpAndDown x = new UpAndDown();
        DUE.is("lines", Due.table(x, HEAD + "doing down;number 3;number 4;slip up for down;"), 5);
        DUE.is("lines", x.count(5), 5);
        DUE.is("base", x.count(0), 10);
        DUE.is("long", x.count(1), 4);
        DUE.is("words", x.count(2), 1);
        DUE.is("slips", x.count(3), 1);
        DUE.is("told", x.count(4), 2);
        DUE.is("a fault", Due.table(x, "table"), -4);
        DUE.is("tape is empty", x.count(6), 0);
        DUE.is("the table stays", x.size(), 10000);
        DUE.is("its doing stays", x.next(1234), 4321);
        DUE.is("its lines stay", x.count(5), 5);
        DUE.is("in place of another", Due.table(x, "table base 2 long 3;"), 1);
        DUE.is("size", x.size(), 8);
        DUE.is("no words are told", x.count(2), 0);
        DUE.is("no slips are told", x.count(3), 0);
        DUE.is("no numbers are told", x.count(4), 0);
        DUE.is("without words a number stays", x.next(5), 5);
        DUE.is("blanks alone", Due.table(x, " \n \n"), 0);
        DUE.is("no table then", x.size(), -2);
        DUE.is("base of none", x.count(0), 0);
        DUE.is("long of none", x.count(1), 0);
        DUE.is("next of none", x.next(0), -2);
    }

    private static void faultAnswers() {
        UpAndDown x = new UpAndDown();
        DUE.is("ahead of any", x.fault(0), 0);
        DUE.is("ahead of any", x.fault(1), -1);
        DUE.is("ahead of any", x.fault(2), -1);
        Due.table(x, "table base 17 long 1;");
        DUE.is("fault", x.fault(0), 2);
        DUE.is("place", x.fault(1), 11);
        DUE.is("another what", x.fault(2), -1);
        DUE.is("another what", x.fault(-1), -1);
        Due.table(x, HEAD);
        DUE.is("without", x.fault(0), 0);
        DUE.is("without", x.fault(1), -1);
    }

    private static void fault(String text, int fault, int place) {
        UpAndDown x = new UpAndDown();
        DUE.is(text, Due.table(x, text), -4);
        DUE.is(text + " fault", x.fault(0), fault);
        DUE.is(text + " place", x.fault(1), place);
        DUE.is(text + " size", x.size(), -2);
    }

    private static void fine(String text, int lines) {
        UpAndDown x = new UpAndDown();
        DUE.is(text, Due.table(x, text), lines);
        DUE.is(text + " fault", x.fault(0), 0);
        DUE.is(text + " place", x.fault(1), -1);
    }

    private static void tokens() {
        fine("table\nbase\n10\nlong\n4\n;\n", 1);
        fine("  table base10long4;doing times07plus 0out009turn;", 2);
        fine("table base 000000000000000010 long 4;", 1);
        fault("table\tbase 10 long 4;", 1, 5);
        fault("Table base 10 long 4;", 1, 0);
        fault("table base 1O long 4;", 2, 11);
        fault("table base 10 long 4:", 1, 20);
        fault("table base 10 long -4;", 1, 19);
        fault("table base 10 long 4;\u00e9", 1, 21);
        fault("table base 10 long 4;\u0000", 1, 21);
        fault("tablebase 10 long 4;", 1, 0);
        fault("table base 10 long 4;doing downup;", 1, 27);
        fault("table base 10 long 4;doing dow;", 1, 27);
        fault("table base 10 long 4;doing xown;", 1, 27);
        fault("table base 10 long 4;doing downz;", 1, 27);
        fault("table base 10 long 4;doing downa;", 1, 27);
        fault("xable base 10 long 4;", 1, 0);
        fault("table base 10 long 4;doing downs;", 1, 27);
    }

    private static void grammar() {
        fine(HEAD, 1);
        fine(HEAD + "doing down up turn keep back less add square cube sum half first;", 2);
        fine(HEAD + "doing times 1 plus 2 out 3;slip times 1 for plus 2;slip down for out 0;", 4);
        fault("doing down;", 1, 0);
        fault("number 1;", 1, 0);
        fault(";", 1, 0);
        fault("7", 1, 0);
        fault("table base 10 long 4", 1, 20);
        fault("table base 10 long 4  ", 1, 22);
        fault("table base 10 long", 1, 18);
        fault("table base 10", 1, 13);
        fault("table base", 1, 10);
        fault("table", 1, 5);
        fault("table long 4 base 10;", 1, 6);
        fault("table base ten long 4;", 1, 11);
        fault("table base 10 long 4 4;", 1, 21);
        fault(HEAD + HEAD, 1, 21);
        fault(HEAD + ";", 1, 21);
        fault(HEAD + "doing;", 1, 26);
        fault(HEAD + "doing 4;", 1, 27);
        fault(HEAD + "doing down 4;", 1, 32);
        fault(HEAD + "doing times;", 1, 32);
        fault(HEAD + "doing times up;", 1, 33);
        fault(HEAD + "doing down", 1, 31);
        fault(HEAD + "doing down number 4;", 1, 32);
        fault(HEAD + "number;", 1, 27);
        fault(HEAD + "number 4 4;", 1, 30);
        fault(HEAD + "slip down up;", 1, 31);
        fault(HEAD + "slip down for;", 1, 34);
        fault(HEAD + "slip for down;", 1, 26);
        fault(HEAD + "slip down for up down;", 1, 38);
        fault(HEAD + "base 10;", 1, 21);
        fault(HEAD + "down;", 1, 21);
    }

    private static void bounds() {
        fine("table base 2 long 8;", 1);
        fine("table base 16 long 3;", 1);
        fine("table base 10 long 1;", 1);
        fault("table base 1 long 1;", 2, 11);
        fault("table base 0 long 1;", 2, 11);
        fault("table base 17 long 1;", 2, 11);
        fault("table base 10 long 0;", 2, 19);
        fault("table base 10 long 5;", 2, 19);
        fault("table base 2 long 9;", 2, 18);
        fault("table base 16 long 4;", 2, 19);
        fault("table base 3 long 99999999999999999999;", 2, 18);
        fault("table base 4294967306 long 4;", 2, 11);
        for (int base = 2; base <= 16; base++) {
            int most = 1;
            for (int size = base; most < 8 && size * base <= 10000; size *= base) {
                most++;
            }
            fine("table base " + base + " long " + most + ";", 1);
            fault("table base " + base + " long " + (most + 1) + ";", 2, base < 10 ? 18 : 19);
        }
        fine(HEAD + "number 9999;", 2);
        fault(HEAD + "number 10000;", 2, 28);
        fine("table base 2 long 3;number 7;", 2);
        fault("table base 2 long 3;number 8;", 2, 27);
        fine(HEAD + "doing times 99 plus 99 out 9;", 2);
        fine(HEAD + "doing times 0 plus 0 out 0;", 2);
        fault(HEAD + "doing times 100;", 2, 33);
        fault(HEAD + "doing plus 100;", 2, 32);
        fault(HEAD + "doing out 10;", 2, 31);
        fault("table base 2 long 3;doing out 2;", 2, 30);
        fine("table base 16 long 3;doing out 15;", 2);
        fault(HEAD + "slip out 10 for up;", 2, 30);
        fault(HEAD + "slip up for times 100;", 2, 39);
    }

    private static void toldAlready() {
        fault(HEAD + "doing up;doing up;", 2, 30);
        fault(HEAD + "doing up;number 1;doing;", 2, 39);
    }

    private static String many(String one, int n) {
        StringBuilder made = new StringBuilder();
        for (int i = 0; i < n; i++) {
            made.append(one);
        }
        return made.toString();
    }

    private static void tooMany() {
        fine(HEAD + "doing" + many(" up", 12) + ";", 2);
        fault(HEAD + "doing" + many(" up", 13) + ";", 3, 26 + 36 + 1);
        fault(HEAD + "doing" + many(" up", 12) + " times 100;", 3, 26 + 36 + 1);
        fault(HEAD + "doing" + many(" up", 12) + " upp;", 1, 26 + 36 + 1);
        fault(HEAD + "doing" + many(" up", 12), 1, 26 + 36);
        fine(HEAD + many("slip up for up;", 6), 7);
        fault(HEAD + many("slip up for up;", 7), 3, 21 + 6 * 15);
        fault(HEAD + many("slip up for up;", 6) + "slip", 3, 21 + 6 * 15);
        fine(HEAD + many("number 1;", 20), 21);
        fault(HEAD + many("number 1;", 21), 3, 21 + 20 * 9);
        fault(HEAD + many("number 1;", 20) + "number 10000;", 3, 21 + 20 * 9);
    }

    private static void firstFault() {
        fault("table base 17 long 99; doing $", 2, 11);
        fault(HEAD + "doing out 10;#", 2, 31);
        fault(HEAD + "doing # out 10;", 1, 27);
    }
}
