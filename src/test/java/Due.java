/** Counts and prints every answer that is not the one that is due. */
final class Due {
    private int checked;
    private int wrong;

    void is(String call, long got, long want) {
        checked++;
        if (got != want) {
            wrong++;
            System.out.println(call + " answered " + got + ", due is " + want);
        }
    }

    void end(String test) {
        System.out.println(test + ": " + checked + " answers, " + wrong + " wrong");
        if (wrong > 0) {
            System.exit(1);
        }
    }

    /** Feeds a text, in numbers of four bytes, and cuts off what was fed beyond it. */
    static void feed(UpAndDown object, String text) {
        int ahead = object.count(6);
        for (int at = 0; at < text.length(); at += 20) {
            object.feed(four(text, at), four(text, at + 4), four(text, at + 8), four(text, at + 12), four(text, at + 16));
        }
        object.end(ahead + text.length());
    }

    private static int four(String text, int at) {
        int made = 0;
        for (int i = at; i < at + 4; i++) {
            made = made << 8 | (i < text.length() ? text.charAt(i) & 255 : 0);
        }
        return made;
    }

    static int table(UpAndDown object, String text) {
        object.end(0);
        feed(object, text);
        return object.table();
    }

    static UpAndDown of(String text) {
        UpAndDown object = new UpAndDown();
        int lines = table(object, text);
        if (lines < 0) {
            throw new IllegalStateException(text + " has fault " + object.fault(0) + " at " + object.fault(1));
        }
        return object;
    }
}
