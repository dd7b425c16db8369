/** The boundaries that the document's part 2 names (texts and their faults), a method for each sentence. */
public final class EdgeTextTest {
    private static final int NONE = HatHall.NONE;
    private static final Check check = new Check();

    public static void main(String[] args) {
        atMost500Bytes();
        words();
        numbers();
        signs();
        blanks();
        noRules();
        passPerhaps();
        anyNumberOfTimes();
        testsPerhaps();
        seesWhoIsntLookedAt();
        hearsWhoIsntHeard();
        seenAndHeardOfNone();
        fromTheLeft();
        intsThatWrap();
        cutDownToZero();
        byZero();
        oneOrZero();
        whatIsntZeroHolds();
        passes();
        guessModQ();
        cantStandThere();
        isNoToken();
        endsTooSoon();
        numberOfFourDigits();
        seventeenthRule();
        withinSixOthers();
        seventhNot();
        wordThatIsNoPart();
        noSuchWearer();
        firstAlongTheText();
        lastOfSeveral();
        notNamed();
        check.end();
    }

    private static void fault(String text, int sort, int place) {
        faultIn(new HatHall(), text, sort, place);
    }

    private static void faultIn(HatHall x, String text, int sort, int place) {
        int texts = x.count(6);
        check.same("'" + text + "'", Check.told(x, text), sort);
        check.same("place in '" + text + "'", x.fault(), place);
        if (sort != 0) {
            check.same("rules stay after '" + text + "'", x.count(6), texts);
        }
    }

    private static void fine(String text) {
        fault(text, 0, NONE);
    }

    /** What an expression is worth, to wearer 1 of 3, with 4 colours: asked by 'pass'. */
    private static void worth(String expression, String due) {
        HatHall x = new HatHall();
        x.hall(3, 4);
        String text = "wearer 1 pass (" + expression + ") = (" + due + ") guess 0;";
        check.same(text, Check.told(x, text), 0);
        check.same(expression + " is " + due, x.in(0, 1, 1), 4);
    }

    private static String blanks(int many) {
        return " ".repeat(many);
    }

    /** "A TEXT of at most 500 bytes." */
    private static void atMost500Bytes() {
        HatHall x = new HatHall();
        check.same("a rule at the end of 500", Check.told(x, blanks(483) + "wearer 1 guess 1;"), 0);
        check.same("it holds", x.in(0, 1, 1), 1);
        fault(blanks(483) + "wearer 1 guess 1)", 1, 499);
        fault(blanks(484) + "wearer 1 guess 1", 1, 500);
        fault(blanks(486) + "wearer 1 guess", 1, 500);
        fault("wearer 1 guess " + "1".repeat(485), 2, 15);
        fault("w".repeat(500), 1, 0);
        StringBuilder full = new StringBuilder("wearer 1 guess 1");
        while (full.length() < 498) {
            full.append("+1");
        }
        HatHall y = new HatHall();
        y.hall(2, 3);
        check.same("a sum of 242 parts", Check.told(y, full + " ;"), 0);
        check.same("242 MOD 3", y.in(0, 1, 1), 2);
        check.same("no more than 500 come", y.feed(0, 0, 0, 0, 0), 20);
    }

    /** "words (a .. z, the longest row)" */
    private static void words() {
        fine("wearer0pass1guess0;");
        fault("wearerguess 0;", 1, 0);
        fault("wearer 0 guessme;", 1, 9);
        fault("wearer 0 guess mes;", 3, 15);
        fault("wearer 0 guess m;", 3, 15);
        fault("wearer 0 guess nq;", 3, 15);
        fault("wearer 0 guess seens;", 3, 15);
        fault("wearer 0 guess see;", 3, 15);
        fault("wearer 0 guess 1 oror 1;", 1, 17);
        fault("wearer 0 guess z;", 3, 15);
        fault("wearer 0 guess a;", 3, 15);
        fault("wearer 0 guess `;", 1, 15);
        fault("wearer 0 guess {;", 1, 15);
        fault("wearer 0 guess A;", 1, 15);
        fault("wearer 0 guess Z;", 1, 15);
        fault("wearer 0 guess mE;", 3, 15);
        fault("wearer 0 guess n_;", 1, 16);
    }

    /** "NUMBERS (1 to 3 digits)" */
    private static void numbers() {
        fine("wearer 0 guess 0;");
        fine("wearer 0 guess 9;");
        fine("wearer 0 guess 10;");
        fine("wearer 0 guess 999;");
        fine("wearer 000 guess sees 001;");
        fault("wearer 0 guess 1000;", 2, 15);
        fault("wearer 0 guess 0000;", 2, 15);
        worth("999", "990 + 9");
        worth("007", "7");
        worth("100", "10 * 10");
    }

    /** "signs ; ( ) + - * / < =": of all bytes those alone, letters and digits can begin a TOKEN. */
    private static void signs() {
        for (int sign = 0; sign < 256; sign++) {
            String text = "wearer 0 guess 1" + (char) sign + "1;";
            if ("+-*/<=".indexOf(sign) >= 0 || sign >= '0' && sign <= '9') {
                fine(text);
            } else if (sign == ' ' || sign == '\n') {
                fault(text, 1, 17);
            } else if (sign == ';') {
                fault(text, 1, 17);
            } else {
                fault(text, 1, 16);
            }
        }
        fine("wearer 0 guess (1);");
    }

    /** "blanks (32, 10) between them count for nothing" */
    private static void blanks() {
        fine(" wearer 0 guess 1;");
        fine("\n\nwearer\n0\n \nguess\n1\n;\n");
        fine("wearer 0 guess(1)+(2);  ");
        int[] others = {0, 9, 11, 12, 13, 31, 33, 127, 160, 255};
        for (int other : others) {
            fault("wearer 0 guess 1" + (char) other + ";", 1, 16);
            fault((char) other + "wearer 0 guess 1;", 1, 0);
            fault("wearer 0 guess 1;" + (char) other, 1, 17);
        }
        fault("wear er 0 guess 1;", 1, 0);
        fault("wearer 0 guess 1 0;", 1, 17);
    }

    /** "TEXT: RULE*": also none. */
    private static void noRules() {
        HatHall x = new HatHall();
        Check.told(x, "wearer 0 guess 1;");
        x.tell(1, 1, 1);
        faultIn(x, "", 0, NONE);
        faultIn(x, " ", 0, NONE);
        faultIn(x, " \n\n ", 0, NONE);
        check.same("the text's rule stays", x.in(0, 0, 1), 1);
        check.same("the table stays", x.cell(1, 1), 1);
    }

    /** "'wearer' NUMBER ['pass' EXPR] 'guess' EXPR ';'" */
    private static void passPerhaps() {
        fine("wearer 0 guess 1;");
        fine("wearer 0 pass 0 guess 1;");
        fault("wearer 0 pass 0 pass 0 guess 1;", 1, 16);
        fault("wearer 0 pass 0;", 1, 15);
        fault("wearer 0 pass guess 1;", 3, 14);
        fault("wearer 0 guess 1 pass 0;", 1, 17);
        fault("wearer 0 guess 1 guess 1;", 1, 17);
        fault("wearer 0;", 1, 8);
        fault("wearer 0 guess 1;;", 1, 17);
        fault(";", 1, 0);
    }

    /** "* any number of times" */
    private static void anyNumberOfTimes() {
        worth("0" + " or 0".repeat(40) + " or 1", "1");
        worth("1" + " and 1".repeat(40) + " and 0", "0");
        worth("5" + " - 1".repeat(90), "0 - 85");
        worth("1" + " * 2".repeat(30) + " / 2".repeat(30), "1");
        worth("not 0 and not 0 and not 1 or not 0", "1");
    }

    /** "SUM [('<' | '=') SUM]": one at most. */
    private static void testsPerhaps() {
        fine("wearer 0 guess 1 < 2;");
        fine("wearer 0 guess (1 < 2) = (2 < 3);");
        fault("wearer 0 guess 1 < 2 < 3;", 1, 21);
        fault("wearer 0 guess 1 < 2 = 3;", 1, 21);
        fault("wearer 0 guess 1 = 2 = 3;", 1, 21);
        fault("wearer 0 guess 1 <= 2;", 1, 18);
        fault("wearer 0 guess < 2;", 1, 15);
        fine("wearer 0 guess 1 < 2 and 2 = 3 or 1 < 2;");
    }

    private static HatHall rowOfTwos() {
        HatHall x = new HatHall();
        x.hall(3, 3);
        x.looks(1, 4);
        x.round(0, 1);
        x.round(1, 1);
        Check.told(x, "wearer 0 guess 2; wearer 2 guess 1;");
        return x;
    }

    private static void guessIn(HatHall x, String expression, int due) {
        Check.told(x, "wearer 1 guess " + expression + ";");
        check.same(expression, x.in(26, 1, 1), due);
    }

    /** "'sees' k: the HAT of WEARER k, 0 if it isn't looked at" */
    private static void seesWhoIsntLookedAt() {
        HatHall x = rowOfTwos();
        guessIn(x, "sees 2", 2);
        guessIn(x, "sees 0", 0);
        guessIn(x, "sees 1", 0);
        x.looks(1, 1);
        guessIn(x, "sees 2", 0);
        guessIn(x, "sees 0", 2);
    }

    /** "'hears' k: its GUESS, 0 if it isn't heard" */
    private static void hearsWhoIsntHeard() {
        HatHall x = rowOfTwos();
        guessIn(x, "hears 2", 1);
        guessIn(x, "hears 0", 0);
        guessIn(x, "hears 1", 0);
        x.round(1, 2);
        guessIn(x, "hears 0", 2);
        Check.told(x, "wearer 0 pass 1 guess 2;");
        guessIn(x, "hears 0", 0);
        guessIn(x, "hears 0 - 1", 2);
        x.round(1, 0);
        guessIn(x, "hears 2", 0);
    }

    /** "'seen', 'heard': the sum of all that are looked at, heard" */
    private static void seenAndHeardOfNone() {
        HatHall x = rowOfTwos();
        guessIn(x, "seen", 2);
        guessIn(x, "heard", 1);
        x.looks(1, 0);
        x.round(1, 0);
        guessIn(x, "seen", 0);
        guessIn(x, "heard", 0);
        x.looks(1, 5);
        x.round(1, 7);
        guessIn(x, "seen - 2", 2);
        guessIn(x, "heard - 1", 2);
    }

    /** "From the left" */
    private static void fromTheLeft() {
        worth("9 - 3 - 4", "2");
        worth("9 - 3 + 4", "10");
        worth("24 / 4 / 2", "3");
        worth("24 / 4 * 2", "12");
        worth("7 * 3 / 2", "10");
        worth("7 / 2 * 3", "9");
        worth("2 + 3 * 4 - 1", "13");
        worth("1 or 1 and 0", "1");
        worth("not 0 or 1", "1");
        worth("not 1 + 1", "0");
        worth("not 1 < 1", "1");
    }

    private static final String LEAST = "(512 * 512 * 512 * 16)";

    /** "ints that wrap" */
    private static void intsThatWrap() {
        worth(LEAST + " < 0", "1");
        worth(LEAST + " - 1 < 0", "0");
        worth(LEAST + " - 1 + 1", LEAST);
        worth(LEAST + " + " + LEAST, "0");
        worth(LEAST + " * 2", "0");
        worth("0 - " + LEAST, LEAST);
        worth(LEAST + " * (0 - 1)", LEAST);
        worth("0 - 1 < " + LEAST + " - 1", "1");
        worth("999 * 999 * 999 * 999 / 999 / 999", wrapped());
    }

    private static String wrapped() {
        int value = 999 * 999 * 999;
        value *= 999;
        value = value / 999 / 999;
        return value < 0 ? "0 - " + -value : Integer.toString(value);
    }

    /** "/ cut down to 0" */
    private static void cutDownToZero() {
        worth("7 / 2", "3");
        worth("(0 - 7) / 2", "0 - 3");
        worth("7 / (0 - 2)", "0 - 3");
        worth("(0 - 7) / (0 - 2)", "3");
        worth("1 / 2", "0");
        worth("(0 - 1) / 2", "0");
        worth("(0 - 2) / 2", "0 - 1");
        worth(LEAST + " / (0 - 1)", LEAST);
        worth(LEAST + " / " + LEAST, "1");
    }

    /** "by 0 gives 0" */
    private static void byZero() {
        worth("7 / 0", "0");
        worth("0 / 0", "0");
        worth("(0 - 7) / 0", "0");
        worth(LEAST + " / 0", "0");
        worth("7 / (3 - 3) + 5", "5");
        worth("7 / heard", "0");
        worth("7 / 0 / 0", "0");
    }

    /** "tests, not, and, or are 1 or 0" */
    private static void oneOrZero() {
        worth("1 < 2", "1");
        worth("2 < 2", "0");
        worth("3 < 2", "0");
        worth("(0 - 1) < 0", "1");
        worth("2 = 2", "1");
        worth("2 = 3", "0");
        worth("0 = 0", "1");
        worth("not 0", "1");
        worth("not 1", "0");
        worth("not 7", "0");
        worth("5 and 6", "1");
        worth("5 and 0", "0");
        worth("0 and 6", "0");
        worth("0 and 0", "0");
        worth("5 or 6", "1");
        worth("5 or 0", "1");
        worth("0 or 6", "1");
        worth("0 or 0", "0");
    }

    /** "(what isn't 0 holds)" */
    private static void whatIsntZeroHolds() {
        worth("not (0 - 1)", "0");
        worth("(0 - 1) and 2", "1");
        worth("0 or (0 - 1)", "1");
        worth("not " + LEAST, "0");
        worth(LEAST + " and " + LEAST, "1");
        worth("not " + LEAST + " * 2", "1");
    }

    private static void passing(String condition, int due) {
        HatHall x = new HatHall();
        x.hall(1, 3);
        check.same(condition, Check.told(x, "wearer 0 pass " + condition + " guess 2;"), 0);
        check.same("pass " + condition, x.in(0, 0, 1), due);
        check.same("wrong with " + condition, x.row(0, 1), due == 3 ? 0 : 1);
    }

    /** "It PASSES, if 'pass' holds; else its GUESS is what 'guess' gives" */
    private static void passes() {
        passing("0", 2);
        passing("1", 3);
        passing("999", 3);
        passing("0 - 1", 3);
        passing("3", 3);
        passing("1 - 1", 2);
        passing(LEAST, 3);
        passing(LEAST + " * 2", 2);
    }

    private static void modulo(int q, String expression, int due) {
        HatHall x = new HatHall();
        x.hall(1, q);
        check.same(expression, Check.told(x, "wearer 0 guess " + expression + ";"), 0);
        check.same(expression + " MOD " + q, x.in(0, 0, 1), due);
    }

    /** "MOD q (from 0 on, also of less than 0)" */
    private static void guessModQ() {
        for (int q = 2; q <= 4; q++) {
            modulo(q, "0", 0);
            modulo(q, "q - 1", q - 1);
            modulo(q, "q", 0);
            modulo(q, "q + 1", 1);
            modulo(q, "0 - 1", q - 1);
            modulo(q, "0 - q", 0);
            modulo(q, "0 - q - 1", q - 1);
            modulo(q, "999", 999 % q);
        }
        // 2 to the power of 31 leaves 2 by 3, so what is as far below 0 leaves 1.
        modulo(3, LEAST, 1);
        modulo(3, LEAST + " - 1", 1);
        modulo(4, LEAST, 0);
        modulo(4, LEAST + " - 1", 3);
    }

    /** "1 a TOKEN that can't stand there" */
    private static void cantStandThere() {
        fault("0", 1, 0);
        fault("guess 1;", 1, 0);
        fault("(", 1, 0);
        fault("1000", 1, 0);
        fault("wearer wearer", 1, 7);
        fault("wearer ;", 1, 7);
        fault("wearer me", 1, 7);
        fault("wearer 0 0", 1, 9);
        fault("wearer 0 0000", 1, 9);
        fault("wearer 0 wearer", 1, 9);
        fault("wearer 0 foo", 1, 9);
        fault("wearer 0 guess ;", 1, 15);
        fault("wearer 0 guess )", 1, 15);
        fault("wearer 0 guess ()", 1, 16);
        fault("wearer 0 guess +1", 1, 15);
        fault("wearer 0 guess 1)", 1, 16);
        fault("wearer 0 guess (1;", 1, 17);
        fault("wearer 0 guess 1 me", 1, 17);
        fault("wearer 0 guess 1 (", 1, 17);
        fault("wearer 0 guess 1 not 1;", 1, 17);
        fault("wearer 0 guess 1 + ;", 1, 19);
        fault("wearer 0 guess not ;", 1, 19);
        fault("wearer 0 guess 1 or or 1;", 3, 20);
        fault("wearer 0 guess sees sees", 1, 20);
        fault("wearer 0 guess hears n", 1, 21);
        fault("wearer 0 guess sees (1)", 1, 20);
        fault("wearer 0 guess seen 1;", 1, 20);
        fault("wearer 0 guess 1; 1", 1, 18);
        fault("wearer 0 guess 1; pass", 1, 18);
    }

    /** "or is none" */
    private static void isNoToken() {
        fault("!", 1, 0);
        fault("wearer !", 1, 7);
        fault("wearer 0 !", 1, 9);
        fault("wearer 0 guess !", 1, 15);
        fault("wearer 0 guess (((((( !", 1, 22);
        fault("wearer 0 guess 1 !", 1, 17);
        fault("wearer 0 guess 1!", 1, 16);
        fault("wearer 0 guess 1 + !", 1, 19);
        fault("wearer 0 guess sees !", 1, 20);
        fault("wearer 0 guess 1; !", 1, 18);
        fault("wearer 0 guess me" + (char) 255, 1, 17);
    }

    /** "(the text's length where it ends too soon)": at every place where a TOKEN could still come. */
    private static void endsTooSoon() {
        String[] tokens = {"wearer", "0", "pass", "not", "(", "sees", "1", "+", "1", ")", "<", "q", "*", "n", "or", "me",
            "and", "hears", "1", "guess", "heard", "/", "seen"};
        StringBuilder text = new StringBuilder();
        for (String token : tokens) {
            text.append(token);
            fault(text.toString(), 1, text.length());
            fault(text + "  \n", 1, text.length() + 3);
            text.append(' ');
        }
        fine(text + ";");
        fault("wearer 0 guess 1; wearer", 1, 24);
        fault("wearer 0 guess ((((((", 1, 21);
    }

    /** "2 one that can, but is too much: a NUMBER of 4 digits or more" */
    private static void numberOfFourDigits() {
        fine("wearer 001 pass 999 guess sees 001 + hears 000 + 999;");
        fault("wearer 0001 guess 1;", 2, 7);
        fault("wearer 9999 guess 1;", 2, 7);
        fault("wearer 0 pass 1000 guess 1;", 2, 14);
        fault("wearer 0 guess 0000;", 2, 15);
        fault("wearer 0 guess sees 0001;", 2, 20);
        fault("wearer 0 guess hears 9999;", 2, 21);
        fault("wearer 0 guess 1 + 4294967297;", 2, 19);
        fault("wearer 0 guess 1 + 18446744073709551617;", 2, 19);
        fault("wearer 0 guess (((((1000)))));", 2, 20);
        fault("wearer 0 guess not 1000;", 2, 19);
        fault("wearer 0 guess 1 1000;", 1, 17);
        fault("wearer 0 1000;", 1, 9);
    }

    /** "the first TOKEN of the 17th RULE" */
    private static void seventeenthRule() {
        String sixteen = "wearer 0 guess 1;".repeat(15) + "wearer 1 guess 1;";
        fine(sixteen);
        fine(sixteen + "  ");
        fault(sixteen + "wearer 0 guess 1;", 2, 272);
        fault(sixteen + "\n wearer", 2, 274);
        fault(sixteen + "wearer wearer", 2, 272);
        fault(sixteen + "wearer 9 guess 1;", 2, 272);
        fault(sixteen + ";", 1, 272);
        fault(sixteen + "guess", 1, 272);
        fault(sixteen + "0000", 1, 272);
        fault("wearer 0 guess 1;".repeat(15) + "wearer 0 guess;", 1, 15 * 17 + 14);
    }

    /** "of an EXPR within 6 others (a NUMBER, any word, a parenthesis)" */
    private static void withinSixOthers() {
        fine("wearer 0 guess (((((1)))));");
        fine("wearer 0 guess (((((not me or sees 1)))));");
        fine("wearer 0 pass (((((1))))) guess (((((1))))) + (((((1)))));");
        fine("wearer 0 guess (1)+(1)+(1)+(1)+(1)+(1)+(1)+(1);");
        String[] firsts = {"1", "999", "1000", "me", "n", "q", "sees", "hears", "seen", "heard", "not", "and", "or", "pass",
            "guess", "wearer", "foo", "("};
        for (String first : firsts) {
            fault("wearer 0 guess ((((((" + first + " 1))))));", 2, 21);
            fault("wearer 0 pass (((((( " + first + " 1)))))) guess 1;", 2, 21);
            fault("wearer 0 guess ((((1 + (1 < (" + first, 2, 29);
        }
        String[] others = {")", ";", "+", "-", "*", "/", "<", "=", "!", ""};
        for (String other : others) {
            fault("wearer 0 guess ((((((" + other, 1, 21);
        }
        fault("wearer 0 guess ((((((1", 2, 21);
        fault("wearer 0 guess (((((((((((((((((((((((", 2, 21);
    }

    /** "the seventh 'not' side by side" */
    private static void seventhNot() {
        String six = "not not not not not not ";
        fine("wearer 0 guess " + six + "1;");
        fine("wearer 0 pass " + six + "1 guess " + six + "1;");
        fine("wearer 0 guess " + six + "(" + six + "1);");
        fine("wearer 0 guess " + six + "1 and " + six + "1 or " + six + "1;");
        fault("wearer 0 guess " + six + "not 1;", 2, 39);
        fault("wearer 0 guess " + six + "not", 2, 39);
        fault("wearer 0 guess " + six + "not not 1;", 2, 39);
        fault("wearer 0 guess " + six + "nots 1;", 3, 39);
        fault("wearer 0 guess (" + six + "not 1);", 2, 40);
        fault("wearer 0 pass 1 and " + six + "not 1 guess 1;", 2, 44);
        fault("wearer 0 guess " + six + ";", 1, 39);
        fault("wearer 0 guess 1 + " + six + "not 1;", 3, 19);
        worth(six + "0", "0");
        worth("not not not not not 0", "1");
    }

    /** "3 any word where a PART must stand that is none" */
    private static void wordThatIsNoPart() {
        String[] words = {"wearer", "pass", "guess", "and", "or", "foo", "x", "ms", "see", "nn"};
        for (String word : words) {
            fault("wearer 0 guess " + word + ";", 3, 15);
            fault("wearer 0 pass " + word + " guess 1;", 3, 14);
            fault("wearer 0 guess (" + word, 3, 16);
            fault("wearer 0 guess not " + word, 3, 19);
            fault("wearer 0 guess 1 or " + word, 3, 20);
            fault("wearer 0 guess 1 and " + word, 3, 21);
        }
        for (String sign : new String[] {"+", "-", "*", "/", "<", "="}) {
            fault("wearer 0 guess 1 " + sign + " not 1;", 3, 19);
            fault("wearer 0 guess 1 " + sign + " foo", 3, 19);
            fine("wearer 0 guess 1 " + sign + " me;");
        }
    }

    /** "4 behind 'wearer', 'sees', 'hears' the number of a WEARER that there isn't" */
    private static void noSuchWearer() {
        for (int n = 1; n <= 8; n++) {
            HatHall x = new HatHall();
            x.hall(n, 2);
            faultIn(x, "wearer " + n + " guess 1;", 4, 7);
            faultIn(x, "wearer 0 guess sees " + n + ";", 4, 20);
            faultIn(x, "wearer 0 guess hears " + n + ";", 4, 21);
            faultIn(x, "wearer 0 pass hears " + n + " guess 1;", 4, 20);
            int last = n - 1;
            faultIn(x, "wearer " + last + " guess sees " + last + " + hears " + last + ";", 0, NONE);
        }
        fault("wearer 999 guess 1;", 4, 7);
        fault("wearer 32 guess 1;", 4, 7);
        fault("wearer 0 guess sees 33;", 4, 20);
        fault("wearer 2", 4, 7);
        fault("wearer 2!", 4, 7);
        fine("wearer 0 guess 2;");
        HatHall x = new HatHall();
        x.hall(8, 2);
        x.hall(3, 2);
        faultIn(x, "wearer 7 guess 1;", 4, 7);
    }

    /** "FAULTS, the first along the text, at a TOKEN's first byte" */
    private static void firstAlongTheText() {
        fault("wearer 5 guess foo 1000 !", 4, 7);
        fault("wearer 0 guess foo 1000 !", 3, 15);
        fault("wearer 0 guess 1000 foo !", 2, 15);
        fault("wearer 0 guess 1 ! foo 1000", 1, 17);
        fault("wearer 0 guess sees 7 + foo;", 4, 20);
        fault("wearer 0 guess 1; wearer 0 guess   foobar;", 3, 35);
        fault("wearer 0 guess 1; wearer 0 guess\n\n12345;", 2, 34);
    }

    /** "Of several RULES of one the last counts" */
    private static void lastOfSeveral() {
        HatHall x = new HatHall();
        x.hall(2, 4);
        faultIn(x, "wearer 0 guess 1; wearer 1 guess 3; wearer 0 pass 1 guess 2;", 0, NONE);
        check.same("the last one passes", x.in(0, 0, 1), 4);
        faultIn(x, "wearer 0 pass 1 guess 1; wearer 0 guess 2;", 0, NONE);
        check.same("the last one doesn't", x.in(0, 0, 1), 2);
        faultIn(x, "wearer 0 guess 2;".repeat(15) + "wearer 0 guess 1;", 0, NONE);
        check.same("the last of sixteen", x.in(0, 0, 1), 1);
    }

    /** "WEARERS that aren't named keep theirs" */
    private static void notNamed() {
        HatHall x = new HatHall();
        x.hall(3, 3);
        x.tell(2, 8, 2);
        Check.told(x, "wearer 0 guess 2;");
        faultIn(x, "wearer 1 guess 1;", 0, NONE);
        check.same("a text's", x.in(0, 0, 1), 2);
        check.same("the new one", x.in(0, 1, 1), 1);
        check.same("a table", x.cell(2, 8), 2);
        check.same("two texts", x.count(6), 2);
    }
}
