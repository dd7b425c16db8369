import java.util.NoSuchElementException;

/** Counts answers that are not as due, and tells a text to a hall. */
final class Check {
    interface Call {
        void make();
    }

    private int made = 0;
    private int wrong = 0;

    void same(String what, long got, long due) {
        made++;
        if (got != due) {
            wrong++;
            System.out.println(what + ": answered " + got + ", due is " + due);
        }
    }

    void yes(String what, boolean got) {
        same(what, got ? 1 : 0, 1);
    }

    void no(String what, boolean got) {
        same(what, got ? 1 : 0, 0);
    }

    HatHall hallOf(int n, int q) {
        HatHall x = new HatHall();
        yes("hall(" + n + ", " + q + ")", x.hall(n, q));
        return x;
    }

    void missing(String what, Call call) {
        same(what + " throws NoSuchElementException", thrownBy(call) == NoSuchElementException.class ? 1 : 0, 1);
    }

    void refused(String what, Call call) {
        same(what + " throws IllegalArgumentException", thrownBy(call) == IllegalArgumentException.class ? 1 : 0, 1);
    }

    private static Class<?> thrownBy(Call call) {
        try {
            call.make();
            return null;
        } catch (RuntimeException e) {
            return e.getClass();
        }
    }

    void end() {
        System.out.println(made + " answers, " + wrong + " not as due");
        if (wrong != 0 || made == 0) {
            System.exit(1);
        }
    }

    /** Feeds the bytes of a text, blanks behind it, and answers what rules() says of it. */
    static int told(HatHall x, String text) {
        for (int at = 0; at < text.length(); at += 20) {
            x.feed(number(text, at), number(text, at + 4), number(text, at + 8), number(text, at + 12),
                    number(text, at + 16));
        }
        return x.rules(text.length());
    }

    private static int number(String text, int at) {
        int number = 0;
        for (int i = at; i < at + 4; i++) {
            number = number << 8 | (i < text.length() ? text.charAt(i) & 255 : ' ');
        }
        return number;
    }
}
