/** The language of the texts: what each part gives, and every kind of fault with its place. */
public final class TextTest {
    private static final Check check = new Check();

    public static void main(String[] args) {
        values();
        sightAndHearing();
        passes();
        tokens();
        misplaced();
        tooMuch();
        noPartNoWearer();
        severalRules();
        check.end();
    }

    /** What an expression gives MOD 4, for wearer 1 of 3. */
    private static void gives(String expression, int due) {
        HatHall x = new HatHall();
        x.hall(3, 4);
        check.same(expression, Check.told(x, "wearer 1 guess " + expression + ";"), 0);
        check.same(expression, x.in(0, 1, 1), due);
    }

    private static void values() {
        gives("3", 3);
        gives("me", 1);
        gives("n", 3);
        gives("q + 2", 2);
        gives("7", 3);
        gives("0 - 1", 3);
        gives("0 - 4", 0);
        gives("9 - 3 - 4", 2);
        gives("24 / 4 / 2", 3);
        gives("1 + 2 * 3", 3);
        gives("(1 + 2) * 3", 1);
        gives("(0 - 7) / 2", 1);
        gives("7 / 0", 0);
        gives("7 / (2 - 2) + 2", 2);
        gives("2 < 3", 1);
        gives("3 < 3", 0);
        gives("3 = 3", 1);
        gives("3 = 4", 0);
        gives("0 - 1 < 0", 1);
        gives("5 and 2", 1);
        gives("5 and 0", 0);
        gives("0 or 7", 1);
        gives("0 or 0", 0);
        gives("1 or 1 and 0", 1);
        gives("(1 or 1) and 0", 0);
        gives("not 0", 1);
        gives("not 6", 0);
        gives("not not 6", 1);
        gives("not 1 = 2", 1);
        gives("not 2 + 1", 0);
        gives("not 0 and 0", 0);
        gives("2 * (1 < 2) + (3 < 4)", 3);
        gives("999 * 999 * 999 * 999", 1);
        gives("999 * 999 * 999 * 999 < 0", (int) (999L * 999 * 999 * 999) < 0 ? 1 : 0);
        gives("512 * 512 * 512 * 16 < 0", 1);
        gives("512 * 512 * 512 * 16 / (0 - 1) < 0", 1);
        gives("(((((2)))))", 2);
        gives("not not not not not not 3", 1);
        gives("not not not not not (not 3)", 1);
    }

    private static void sightAndHearing() {
        HatHall x = new HatHall();
        x.hall(4, 3);
        x.looks(1, 9);
        x.round(1, 2);
        x.round(2, 1);
        x.tell(0, 26, 3);
        x.tell(3, 26, 1);
        // Row 80: all hats are 2. Wearer 0 passes (3), wearer 3 guesses 1, wearer 2 guesses 0.
        String[] texts = {"sees 0", "sees 1", "sees 2", "sees 3", "seen", "hears 0", "hears 2", "hears 3", "hears 1",
            "heard"};
        int[] due = {2, 0, 0, 2, 4, 3, 0, 1, 0, 4};
        for (int i = 0; i < texts.length; i++) {
            check.same(texts[i], Check.told(x, "wearer 1 pass not " + texts[i] + "=" + due[i] + "guess 2;"), 0);
            check.same(texts[i], x.in(80, 1, 1), 2);
            Check.told(x, "wearer 1 guess " + texts[i] + ";");
            check.same(texts[i] + " as a guess", x.in(80, 1, 1), due[i] % 3);
        }
    }

    private static void passes() {
        HatHall x = new HatHall();
        x.hall(2, 3);
        Check.told(x, "wearer 0 pass sees 1 = 1 or sees 1 = 2 guess 2;");
        check.same("it guesses", x.in(0, 0, 1), 2);
        check.same("it passes", x.in(3, 0, 1), 3);
        check.same("it passes", x.in(6, 0, 1), 3);
        Check.told(x, "wearer 0 pass 0 - 5 guess 2;");
        check.same("what isn't 0 holds", x.in(0, 0, 1), 3);
    }

    private static void fault(String text, int sort, int place) {
        HatHall x = new HatHall();
        check.same("fault of '" + text + "'", Check.told(x, text), sort);
        check.same("place in '" + text + "'", x.fault(), sort == 0 ? HatHall.NONE : place);
        check.same("rules stay by '" + text + "'", sort == 0 ? 0 : x.count(6), 0);
    }

    private static void tokens() {
        fault("wearer0guess1;", 0, 0);
        fault("wearer 0\nguess\n\n1 ; \n", 0, 0);
        fault("wearer 0pass 1<2and 3guess 1;", 0, 0);
        fault("wearer 0 guess 1and 2;", 0, 0);
        fault("wearer 0 guess notn;", 3, 15);
        fault("wearer 0 guess\t1;", 1, 14);
        fault("wearer 0 guess 1!;", 1, 16);
        fault("Wearer 0 guess 1;", 1, 0);
        fault("wearer 0 guess Me;", 1, 15);
        fault("wearer 0 guess 1,2;", 1, 16);
        fault("wearer 0 guess 1.2;", 1, 16);
        fault("wearer 0 guess 1:2;", 1, 16);
        fault("wearer 0 guess 1>2;", 1, 16);
        fault("wearer 0 guess " + (char) 233 + ";", 1, 15);
        fault("wearer 00 guess 001;", 0, 0);
    }

    private static void misplaced() {
        fault("", 0, 0);
        fault(" \n ", 0, 0);
        fault("wearer", 1, 6);
        fault("wearer  ", 1, 8);
        fault("wearer 0", 1, 8);
        fault("wearer 0 guess", 1, 14);
        fault("wearer 0 guess 1", 1, 16);
        fault("wearer 0 guess 1 ", 1, 17);
        fault("wearer 0 pass 1;", 1, 15);
        fault("wearer 0 pass 1", 1, 15);
        fault("wearer 0 guess 1; 5", 1, 18);
        fault("wearer 0 guess 1; 5000", 1, 18);
        fault("wearer 0 guess 1; guess", 1, 18);
        fault("wearer 0 guess 1;;", 1, 17);
        fault("wearer me guess 1;", 1, 7);
        fault("wearer (0) guess 1;", 1, 7);
        fault("wearer 0 1;", 1, 9);
        fault("wearer 0 guess 1 2;", 1, 17);
        fault("wearer 0 guess 1 2000;", 1, 17);
        fault("wearer 0 guess 1 foo;", 1, 17);
        fault("wearer 0 guess 1 not 2;", 1, 17);
        fault("wearer 0 guess 1 guess 2;", 1, 17);
        fault("wearer 0 guess 1 < 2 < 3;", 1, 21);
        fault("wearer 0 guess 1 = 2 < 3;", 1, 21);
        fault("wearer 0 guess (1;", 1, 17);
        fault("wearer 0 guess 1);", 1, 16);
        fault("wearer 0 guess ();", 1, 16);
        fault("wearer 0 guess -1;", 1, 15);
        fault("wearer 0 guess 1 + ;", 1, 19);
        fault("wearer 0 guess 1 + * 2;", 1, 19);
        fault("wearer 0 guess sees;", 1, 19);
        fault("wearer 0 guess sees me;", 1, 20);
        fault("wearer 0 guess sees (1);", 1, 20);
        fault("wearer 0 guess hears ", 1, 21);
        fault("wearer 0 guess not;", 1, 18);
        fault("wearer 0 guess (1 guess 2);", 1, 18);
        fault("wearer 0 pass (1 guess 2;", 1, 17);
        fault("wearer 0 guess 1 or;", 1, 19);
    }

    private static void tooMuch() {
        fault("wearer 0000 guess 1;", 2, 7);
        fault("wearer 0 guess 1000;", 2, 15);
        fault("wearer 0 guess 0001;", 2, 15);
        fault("wearer 0 guess 99999999999999999999;", 2, 15);
        fault("wearer 0 guess 999;", 0, 0);
        fault("wearer 0 guess sees 0001;", 2, 20);
        fault("wearer 0 guess 1 + 1000;", 2, 19);
        String sixteen = "wearer 0 guess 1;".repeat(16);
        fault(sixteen, 0, 0);
        fault(sixteen + " wearer 0 guess 1;", 2, 273);
        fault(sixteen + " wearer", 2, 273);
        fault(sixteen + " guess", 1, 273);
        fault(sixteen + " 1", 1, 273);
        fault("wearer 0 guess (((((1)))));", 0, 0);
        fault("wearer 0 guess ((((((1))))));", 2, 21);
        fault("wearer 0 guess ((((((1000", 2, 21);
        fault("wearer 0 guess ((((((me))))));", 2, 21);
        fault("wearer 0 guess ((((((foo))))));", 2, 21);
        fault("wearer 0 guess ((((((and))))));", 2, 21);
        fault("wearer 0 guess ((((((not 1))))));", 2, 21);
        fault("wearer 0 guess (((((((1)))))));", 2, 21);
        fault("wearer 0 guess (((((()", 1, 21);
        fault("wearer 0 guess ((((((;", 1, 21);
        fault("wearer 0 guess ((((((-", 1, 21);
        fault("wearer 0 guess ((((((", 1, 21);
        fault("wearer 0 guess ((((((!", 1, 21);
        fault("wearer 0 guess (1) + (((((2))))) * (((((3)))));", 0, 0);
        fault("wearer 0 pass (((((1))))) guess (((((1)))));", 0, 0);
        fault("wearer 0 pass ((((((1)))))) guess 1;", 2, 20);
        fault("wearer 0 guess not not not not not not 1;", 0, 0);
        fault("wearer 0 guess not not not not not not not 1;", 2, 39);
        fault("wearer 0 guess not not not not not not not", 2, 39);
        fault("wearer 0 guess not not not not not not (not not 1);", 0, 0);
        fault("wearer 0 guess not not not not not not 1 and not not not not not not 1;", 0, 0);
        fault("wearer 0 guess 1 or not not not not not not not 1;", 2, 44);
    }

    private static void noPartNoWearer() {
        fault("wearer 0 guess foo;", 3, 15);
        fault("wearer 0 guess and;", 3, 15);
        fault("wearer 0 guess wearer;", 3, 15);
        fault("wearer 0 guess guess;", 3, 15);
        fault("wearer 0 pass guess 1;", 3, 14);
        fault("wearer 0 guess 1 + not 1;", 3, 19);
        fault("wearer 0 guess 1 < not 1;", 3, 19);
        fault("wearer 0 guess 1 * or;", 3, 19);
        fault("wearer 0 guess not foo;", 3, 19);
        fault("wearer 0 guess (mee);", 3, 16);
        fault("wearer 0 guess se;", 3, 15);
        fault("wearer 0 guess seens;", 3, 15);
        fault("wearer 0 guess z;", 3, 15);
        fault("wearer 0 guess a;", 3, 15);
        fault("wearer 2 guess 1;", 4, 7);
        fault("wearer 999 guess 1;", 4, 7);
        fault("wearer 2 foo", 4, 7);
        fault("wearer 0 guess sees 2;", 4, 20);
        fault("wearer 0 guess hears 2;", 4, 21);
        fault("wearer 0 guess sees 1 + hears 0;", 0, 0);
        fault("wearer 0 pass sees 8 guess 1;", 4, 19);
        fault("wearer 1 guess 1; wearer 0 guess sees 3;", 4, 38);
    }

    private static void severalRules() {
        HatHall x = new HatHall();
        x.hall(3, 4);
        Check.told(x, "wearer 0 guess 1; wearer 1 guess 2; wearer 0 pass 0 guess 3;");
        check.same("the last counts", x.in(0, 0, 1), 3);
        check.same("the other one", x.in(0, 1, 1), 2);
        check.same("who isn't named", x.about(2, 4), 0);
        Check.told(x, "wearer 2 guess 1;");
        check.same("earlier ones stay", x.in(0, 0, 1), 3);
        check.same("three texts", x.count(6), 3);
        check.same("a fault", Check.told(x, "wearer 0 guess 0; wearer 1 guess 0"), 1);
        check.same("all rules stay", x.in(0, 0, 1), 3);
    }
}
