import java.util.ArrayList;
import java.util.Arrays;
import java.util.List;
import java.util.regex.Matcher;
import java.util.regex.Pattern;

/** Reads a text token by token, with no recursion: what may stand next is held in a few marks. */
final class ModelText {
    private static final Pattern TOKEN = Pattern.compile("[a-z]+|[0-9]+|[;()+\\-*/<=]");
    private static final List<String> PARTS = Arrays.asList("me", "n", "q", "seen", "heard", "sees", "hears");

    int fault = 0;
    int place = -1;
    final List<Integer> wearers = new ArrayList<>();
    final List<String[][]> texts = new ArrayList<>();

    /** What is due next. */
    private enum Due { RULE, WEARER, PASS_OR_GUESS, NOT_OR_PART, PART, SEEN_WEARER, SIGN }

    private final int n;
    private Due due = Due.RULE;
    private int rules = 0;
    private boolean inPass = false;
    private String[] pass = null;
    private List<String> tokens = new ArrayList<>();
    private int nots = 0;
    private boolean begins = false;
    private int wearer = 0;
    /** Of each EXPR that is open, whether its latest NOT has had its test. */
    private List<Boolean> tested = new ArrayList<>();

    ModelText(String text, int n) {
        this.n = n;
        int at = 0;
        while (fault == 0) {
            while (at < text.length() && (text.charAt(at) == 32 || text.charAt(at) == 10)) {
                at++;
            }
            place = at;
            if (at == text.length()) {
                fault = due == Due.RULE ? 0 : 1;
                return;
            }
            Matcher m = TOKEN.matcher(text).region(at, text.length());
            if (!m.lookingAt()) {
                fault = 1;
                return;
            }
            fault = faultOf(m.group());
            at = m.end();
        }
    }

    private static boolean isWord(String t) {
        return t.charAt(0) >= 'a' && t.charAt(0) <= 'z';
    }

    private static boolean isNumber(String t) {
        return t.charAt(0) >= '0' && t.charAt(0) <= '9';
    }

    private int faultOf(String t) {
        switch (due) {
            case RULE:
                due = Due.WEARER;
                rules++;
                return !t.equals("wearer") ? 1 : rules > 16 ? 2 : 0;
            case WEARER:
                due = Due.PASS_OR_GUESS;
                pass = null;
                return wearerFault(t);
            case PASS_OR_GUESS:
                inPass = t.equals("pass");
                open();
                return inPass || t.equals("guess") ? 0 : 1;
            case SEEN_WEARER:
                due = Due.SIGN;
                tokens.add(t);
                return wearerFault(t);
            case SIGN:
                return signFault(t);
            default:
                return partFault(t);
        }
    }

    private void open() {
        due = Due.NOT_OR_PART;
        tokens = new ArrayList<>();
        tested = new ArrayList<>(List.of(false));
        nots = 0;
        begins = true;
    }

    private int wearerFault(String t) {
        if (!isNumber(t)) {
            return 1;
        }
        if (t.length() > 3) {
            return 2;
        }
        int number = Integer.parseInt(t);
        if (due == Due.PASS_OR_GUESS) {
            wearer = number;
        }
        return number >= n ? 4 : 0;
    }

    private int partFault(String t) {
        if (begins && tested.size() > 6 && (isNumber(t) || isWord(t) || t.equals("("))) {
            return 2;
        }
        begins = false;
        tokens.add(t);
        if (t.equals("not") && due == Due.NOT_OR_PART) {
            nots++;
            return nots > 6 ? 2 : 0;
        }
        if (t.equals("(")) {
            due = Due.NOT_OR_PART;
            tested.add(false);
            nots = 0;
            begins = true;
            return 0;
        }
        due = t.equals("sees") || t.equals("hears") ? Due.SEEN_WEARER : Due.SIGN;
        if (isNumber(t)) {
            return t.length() > 3 ? 2 : 0;
        }
        return PARTS.contains(t) ? 0 : isWord(t) ? 3 : 1;
    }

    private int signFault(String t) {
        int last = tested.size() - 1;
        if (t.equals(")") && last > 0) {
            tested.remove(last);
            tokens.add(t);
            return 0;
        }
        if (t.equals("guess") && last == 0 && inPass) {
            pass = tokens.toArray(new String[0]);
            inPass = false;
            open();
            return 0;
        }
        if (t.equals(";") && last == 0 && !inPass) {
            wearers.add(wearer);
            texts.add(new String[][] {pass, tokens.toArray(new String[0])});
            due = Due.RULE;
            return 0;
        }
        tokens.add(t);
        if (t.equals("and") || t.equals("or")) {
            tested.set(last, false);
            due = Due.NOT_OR_PART;
            nots = 0;
            return 0;
        }
        due = Due.PART;
        if ((t.equals("<") || t.equals("=")) && !tested.get(last)) {
            tested.set(last, true);
            return 0;
        }
        return "+-*/".contains(t) ? 0 : 1;
    }
}
