import java.math.BigInteger;
import java.util.ArrayList;
import java.util.List;
import java.util.Random;
import java.util.regex.Matcher;
import java.util.regex.Pattern;

/** Random texts, many of them faulty, read a second time by patterns (promises 4, 5, 6, 41 and 42). */
public final class ReaderTest {
    private static final Due DUE = new Due();
    private static final Random RANDOM = new Random(11);
    private static final Pattern TOKEN = Pattern.compile("[a-z]+|[0-9]+|[^ \\n]", Pattern.DOTALL);
    private static final List<String> PLAIN = List.of("down", "up", "turn", "keep", "back", "less", "add", "square",
            "cube", "sum", "half", "first");
    private static final List<String> NUMBERED = List.of("times", "plus", "out");
    private static final String[] SCRAPS = {"table", "base", "long", "doing", "number", "slip", "for", ";", "down",
            "up", "times", "plus", "out", "keep", "0", "1", "2", "9", "10", "16", "17", "99", "100", "256", "9999",
            "10000", "99999999999", "x", "A", "-", ".", "\t", "\u00ff", "half"};

    /** A fault found by the second reading; the tokens behind it are not looked at. */
    private static final class Found extends RuntimeException {
        private static final long serialVersionUID = 1;
        final int fault;
        final int place;

        Found(int fault, int place) {
            this.fault = fault;
            this.place = place;
        }
    }

    private static final class Second {
        final List<String> tokens = new ArrayList<>();
        final List<Integer> places = new ArrayList<>();
        final List<String> words = new ArrayList<>();
        final List<Integer> told = new ArrayList<>();
        int at;
        int base;
        int length;
        int size;
        int lines;
        int slips;

        Second(String text) {
            Matcher matcher = TOKEN.matcher(text);
            while (matcher.find()) {
                tokens.add(matcher.group());
                places.add(matcher.start());
            }
            tokens.add("");
            places.add(text.length());
        }

        String here() {
            return tokens.get(at);
        }

        void fault(boolean wrong, int fault) {
            if (wrong) {
                throw new Found(fault, places.get(at));
            }
        }

        void take(String text) {
            fault(!here().equals(text), 1);
            at++;
        }

        int takeNumber(int least, int most) {
            fault(!here().matches("[0-9]+"), 1);
            BigInteger value = new BigInteger(here());
            fault(value.compareTo(BigInteger.valueOf(least)) < 0 || value.compareTo(BigInteger.valueOf(most)) > 0, 2);
            at++;
            return value.intValueExact();
        }

        boolean isWord() {
            return PLAIN.contains(here()) || NUMBERED.contains(here());
        }

        String takeWord() {
            fault(!isWord(), 1);
            String name = here();
            at++;
            if (PLAIN.contains(name)) {
                return PLAIN.indexOf(name) + " -1";
            }
            int most = name.equals("out") ? base - 1 : 99;
            return 12 + NUMBERED.indexOf(name) + " " + takeNumber(0, most);
        }

        void read() {
            while (!here().isEmpty()) {
                if (lines == 0) {
                    first();
                } else {
                    other();
                }
                take(";");
                lines++;
            }
        }

        void first() {
            take("table");
            take("base");
            base = takeNumber(2, 16);
            take("long");
            length = takeNumber(1, 8);
            BigInteger power = BigInteger.valueOf(base).pow(length);
            at--;
            fault(power.compareTo(BigInteger.valueOf(10000)) > 0, 2);
            at++;
            size = power.intValueExact();
        }

        void other() {
            String name = here();
            fault(!List.of("doing", "number", "slip").contains(name), 1);
            fault(name.equals("doing") && !words.isEmpty(), 2);
            fault(name.equals("slip") && slips == 6, 3);
            fault(name.equals("number") && told.size() == 20, 3);
            at++;
            if (name.equals("number")) {
                told.add(takeNumber(0, size - 1));
            } else if (name.equals("slip")) {
                takeWord();
                take("for");
                takeWord();
                slips++;
            } else {
                words.add(takeWord());
                while (!here().equals(";")) {
                    fault(isWord() && words.size() == 12, 3);
                    words.add(takeWord());
                }
            }
        }
    }

    public static void main(String[] args) {
        UpAndDown object = new UpAndDown();
        for (int i = 0; i < 60000; i++) {
            String text = text();
            if (text.length() <= 800) {
                check(object, text);
            }
        }
        DUE.end("ReaderTest");
    }

    private static void check(UpAndDown object, String text) {
        Second second = new Second(text);
        int fault = 0;
        int place = -1;
        try {
            second.read();
        } catch (Found found) {
            fault = found.fault;
            place = found.place;
        }
        int sizeAhead = object.size();
        int linesAhead = object.count(5);
        DUE.is(text, Due.table(object, text), fault == 0 ? second.lines : -4);
        DUE.is(text + " fault", object.fault(0), fault);
        DUE.is(text + " place", object.fault(1), place);
        DUE.is(text + " tape", object.count(6), 0);
        if (fault != 0) {
            DUE.is(text + " size stays", object.size(), sizeAhead);
            DUE.is(text + " lines stay", object.count(5), linesAhead);
            return;
        }
        int[] counts = {second.base, second.length, second.words.size(), second.slips, second.told.size(), second.lines};
        for (int what = 0; what < counts.length; what++) {
            DUE.is(text + " count " + what, object.count(what), counts[what]);
        }
        for (int i = 0; i < second.words.size(); i++) {
            String word = object.word(i, 0) + " " + object.word(i, 1);
            DUE.is(text + " word " + i + ": " + word, word.equals(second.words.get(i)) ? 1 : 0, 1);
        }
        for (int i = 0; i < second.told.size(); i++) {
            DUE.is(text + " told " + i, object.told(i), second.told.get(i));
        }
    }

    private static int below(int n) {
        return RANDOM.nextInt(n);
    }

    private static String word() {
        int sort = below(15);
        return sort < 12 ? PLAIN.get(sort) : NUMBERED.get(sort - 12) + " " + (below(20) == 0 ? 100 : below(sort == 14 ? 4 : 100));
    }

    private static String line() {
        switch (below(5)) {
            case 0:
                StringBuilder doing = new StringBuilder("doing");
                for (int i = below(8) == 0 ? 10 + below(5) : below(4); i >= 0; i--) {
                    doing.append(' ').append(word());
                }
                return doing.append(";").toString();
            case 1:
            case 2:
                return "slip " + word() + " for " + word() + ";";
            default:
                return "number " + below(below(6) == 0 ? 12000 : 40) + ";";
        }
    }

    private static String text() {
        StringBuilder text = new StringBuilder();
        if (below(30) > 0) {
            text.append("table base ").append(1 + below(17)).append(" long ").append(below(10) == 0 ? below(10) : 1 + below(3)).append(";");
        }
        for (int i = below(6) == 0 ? below(40) : below(6); i > 0; i--) {
            text.append(below(4) == 0 ? "\n" : "").append(line());
        }
        for (int i = below(3) == 0 ? 1 + below(2) : 0; i > 0; i--) {
            mend(text);
        }
        return text.toString();
    }

    /** Puts a scrap in, takes some bytes out, or cuts the end off. */
    private static void mend(StringBuilder text) {
        int at = below(text.length() + 1);
        switch (below(3)) {
            case 0:
                text.insert(at, " " + SCRAPS[below(SCRAPS.length)] + (below(2) == 0 ? " " : ""));
                break;
            case 1:
                text.delete(at, Math.min(text.length(), at + 1 + below(6)));
                break;
            default:
                text.setLength(at);
                break;
        }
    }
}
