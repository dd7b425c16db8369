/** The boundaries that the document's Terms name, a method for each sentence. */
public final class EdgeTermsTest {
    private static final int NONE = HatHall.NONE;
    private static final Check check = new Check();

    public static void main(String[] args) {
        wearers();
        colours();
        rowsAtMost();
        hatsOfARow();
        looksAtFirst();
        rounds();
        hearsThoseWhoseRoundIsLess();
        guesses();
        leastAndGreatestView();
        placesOfAView();
        views();
        noMoreThan1024Views();
        tablesAtFirst();
        tablesOfOtherLooks();
        tablesOfOtherHearing();
        withoutATable();
        aTableAgain();
        textsStay();
        textsStayNoLonger();
        check.end();
    }

    private static HatHall hallOf(int n, int q) {
        return check.hallOf(n, q);
    }

    /** "WEARERS 0 to n - 1 (n 1 to 8; 2 at first)" */
    private static void wearers() {
        HatHall x = new HatHall();
        check.same("n at first", x.count(0), 2);
        check.no("n 0", x.hall(0, 2));
        check.no("n 9", x.hall(9, 2));
        check.no("n -1", x.hall(-1, 2));
        check.same("n is still 2", x.count(0), 2);
        check.same("wearer 1 of 2", x.about(1, 1), 0);
        check.missing("wearer 2 of 2", () -> x.about(2, 1));
        check.yes("n 1", x.hall(1, 2));
        check.same("wearer 0 of 1", x.about(0, 1), 0);
        check.missing("wearer 1 of 1", () -> x.about(1, 1));
        check.yes("n 8", x.hall(8, 2));
        check.same("wearer 7 of 8", x.about(7, 1), 0);
        check.missing("wearer 8 of 8", () -> x.about(8, 1));
        check.missing("wearer -1 of 8", () -> x.about(-1, 1));
    }

    /** "COLOURS 0 to q - 1 (q 2 to 4; 2 at first)" */
    private static void colours() {
        HatHall x = new HatHall();
        check.same("q at first", x.count(1), 2);
        check.no("q 1", x.hall(2, 1));
        check.no("q 0", x.hall(2, 0));
        check.no("q 5", x.hall(2, 5));
        check.same("q is still 2", x.count(1), 2);
        for (int q = 2; q <= 4; q++) {
            check.yes("q " + q, x.hall(2, q));
            check.yes("the last colour of " + q, x.heap(q - 1, 8));
            check.no("colour " + q + " of " + q, x.heap(q, 8));
        }
    }

    /** "there are q to the power of n ROWS, which must be 6561 at most" */
    private static void rowsAtMost() {
        for (int n = 1; n <= 8; n++) {
            for (int q = 2; q <= 4; q++) {
                HatHall x = new HatHall();
                long rows = Math.round(Math.pow(q, n));
                check.same("hall " + n + ", " + q, x.hall(n, q) ? 1 : 0, rows <= 6561 ? 1 : 0);
                check.same("rows of " + n + ", " + q, x.count(2), rows <= 6561 ? rows : 4);
            }
        }
        HatHall x = hallOf(8, 3);
        check.same("just 6561", x.won(0), 6561);
        check.same("the last row", x.row(6560, 2), 1);
        check.missing("no row behind it", () -> x.row(6561, 2));
    }

    /** "ROW r: the HAT of WEARER i is r by q to the power of i, MOD q" */
    private static void hatsOfARow() {
        HatHall x = hallOf(3, 4);
        int[][] due = {{0, 0, 0, 0}, {3, 3, 0, 0}, {4, 0, 1, 0}, {15, 3, 3, 0}, {16, 0, 0, 1}, {57, 1, 2, 3},
                {63, 3, 3, 3}};
        for (int[] d : due) {
            check.same("wearer 0 sees in row " + d[0], x.in(d[0], 0, 0), d[2] + 4 * d[3]);
            check.same("wearer 1 sees in row " + d[0], x.in(d[0], 1, 0), d[1] + 4 * d[3]);
            check.same("wearer 2 sees in row " + d[0], x.in(d[0], 2, 0), d[1] + 4 * d[2]);
        }
    }

    /** "Each WEARER LOOKS at others (bits; at first all others)" */
    private static void looksAtFirst() {
        for (int n = 1; n <= 8; n++) {
            HatHall x = hallOf(n, 2);
            for (int w = 0; w < n; w++) {
                check.same("looks of " + w + " of " + n, x.about(w, 0), (1 << n) - 1 - (1 << w));
            }
        }
    }

    /** "guesses in a ROUND (0 to 7; 0 at first)" */
    private static void rounds() {
        HatHall x = hallOf(8, 2);
        for (int w = 0; w < 8; w++) {
            check.same("round at first of " + w, x.about(w, 1), 0);
        }
        for (int round = 0; round <= 7; round++) {
            check.yes("round " + round, x.round(7, round));
            check.same("it is " + round, x.about(7, 1), round);
        }
        check.no("round 8", x.round(7, 8));
        check.no("round -1", x.round(7, -1));
        check.same("it is still 7", x.about(7, 1), 7);
    }

    /** "it HEARS those whose ROUND is less" */
    private static void hearsThoseWhoseRoundIsLess() {
        HatHall x = hallOf(4, 2);
        check.same("at first nobody", x.about(0, 2), 0);
        x.round(0, 3);
        x.round(1, 3);
        x.round(2, 2);
        x.round(3, 4);
        check.same("not who guesses in the same round", x.about(0, 2), 4);
        check.same("nor the other one", x.about(1, 2), 4);
        check.same("the first one hears nobody", x.about(2, 2), 0);
        check.same("the last one hears all", x.about(3, 2), 7);
        x.looks(3, 0);
        check.same("one hears whom one doesn't look at", x.about(3, 2), 7);
    }

    /** "A GUESS is a COLOUR, or q: it PASSES." */
    private static void guesses() {
        for (int q = 2; q <= 4; q++) {
            HatHall x = hallOf(1, q);
            for (int guess = 0; guess < q; guess++) {
                check.yes("guess " + guess, x.tell(0, 0, guess));
                check.same("right in its row", x.row(guess, 0), 1);
                check.same("not wrong in its row", x.row(guess, 1), 0);
                check.same("wrong in another", x.row((guess + 1) % q, 1), 1);
            }
            check.yes("pass", x.tell(0, 0, q));
            for (int row = 0; row < q; row++) {
                check.same("who passes isn't right", x.row(row, 0), 0);
                check.same("who passes isn't wrong", x.row(row, 1), 0);
            }
            check.no("guess q and 1", x.tell(0, 0, q + 1));
            check.no("guess -1", x.tell(0, 0, -1));
            check.same("it still passes", x.cell(0, 0), q);
        }
    }

    private static HatHall listener() {
        HatHall x = hallOf(4, 2);
        x.looks(1, 9);
        x.round(1, 1);
        return x;
    }

    private static void alwaysGuess(HatHall x, int wearer, int guess) {
        for (int view = 0; view < x.about(wearer, 3); view++) {
            x.tell(wearer, view, guess);
        }
    }

    /** "VIEW of a WEARER in a ROW": 0 is the least, one less than VIEWS the greatest. */
    private static void leastAndGreatestView() {
        HatHall x = listener();
        check.same("all hats and guesses are 0", x.in(0, 1, 0), 0);
        alwaysGuess(x, 0, 2);
        alwaysGuess(x, 2, 2);
        alwaysGuess(x, 3, 2);
        check.same("all others pass, all hats are 1", x.in(15, 1, 0), 2 * 2 * 3 * 3 * 3 - 1);
        check.same("VIEWS", x.about(1, 3), 2 * 2 * 3 * 3 * 3);
        check.yes("the greatest view has a guess", x.tell(1, 107, 1));
        check.same("it guesses by that", x.in(15, 1, 1), 1);
        HatHall one = hallOf(2, 4);
        one.looks(0, 0);
        check.same("nothing seen or heard: one view", one.about(0, 3), 1);
        check.same("in the last row, too", one.in(15, 0, 0), 0);
    }

    /** "each times a place (1, q, q q ..); then GUESSES .. each place (q and 1) times the one ahead" */
    private static void placesOfAView() {
        HatHall x = listener();
        check.same("hat of 0", x.in(1, 1, 0), 1);
        check.same("its own hat", x.in(2, 1, 0), 0);
        check.same("a hat not looked at", x.in(4, 1, 0), 0);
        check.same("hat of 3", x.in(8, 1, 0), 2);
        int[] others = {0, 2, 3};
        int[] places = {4, 12, 36};
        for (int i = 0; i < 3; i++) {
            for (int guess = 1; guess <= 2; guess++) {
                alwaysGuess(x, others[i], guess);
                check.same("guess of " + others[i], x.in(0, 1, 0), guess * places[i]);
            }
            alwaysGuess(x, others[i], 0);
        }
    }

    /** "VIEWS: how many there can be" */
    private static void views() {
        HatHall x = hallOf(3, 3);
        int[][] due = {{0, 0, 1}, {2, 0, 3}, {6, 0, 9}, {0, 1, 16}, {2, 1, 48}, {6, 1, 144}};
        for (int[] d : due) {
            x.looks(0, d[0]);
            x.round(0, d[1]);
            check.same("views with looks " + d[0] + " in round " + d[1], x.about(0, 3), d[2]);
            check.yes("the last view", x.tell(0, d[2] - 1, 1));
            check.no("none behind it", x.tell(0, d[2], 1));
        }
    }

    /** "more than 1024: it has no TABLE" */
    private static void noMoreThan1024Views() {
        HatHall x = hallOf(6, 4);
        check.same("1024 by looks", x.about(5, 3), 1024);
        check.same("a table", x.about(5, 4), 0);
        check.yes("its last view", x.tell(5, 1023, 3));
        check.same("its last guess", x.cell(5, 1023), 3);
        check.same("in the row of it", x.in(1023, 5, 1), 3);
        x.hall(6, 3);
        x.looks(2, 0);
        x.round(2, 1);
        check.same("1024 by hearing", x.about(2, 3), 1024);
        check.yes("its last view, too", x.tell(2, 1023, 3));
        x.looks(2, 1);
        check.same("3072", x.about(2, 3), NONE);
        check.same("no table", x.about(2, 4), 2);
        x.hall(8, 2);
        x.round(0, 1);
        x.round(1, 1);
        for (int w = 2; w < 7; w++) {
            x.round(w, 1);
        }
        check.same("384", x.about(0, 3), 128 * 3);
        x.round(6, 0);
        check.same("1152", x.about(0, 3), NONE);
        x.looks(0, 62);
        check.same("288", x.about(0, 3), 32 * 9);
        check.same("a table again", x.about(0, 4), 0);
        x.hall(8, 3);
        check.same("2187", x.about(0, 3), NONE);
        x.looks(0, 126);
        check.same("729", x.about(0, 3), 729);
        x.hall(7, 4);
        check.same("a hall that isn't leaves it", x.about(0, 3), 729);
    }

    /** "At first TABLES in which all GUESSES are 0." */
    private static void tablesAtFirst() {
        int[][] halls = {{2, 2}, {1, 4}, {3, 4}, {5, 2}, {4, 3}};
        for (int[] h : halls) {
            HatHall x = hallOf(h[0], h[1]);
            for (int w = 0; w < h[0]; w++) {
                check.same("a table", x.about(w, 4), 0);
                for (int view = 0; view < x.about(w, 3); view++) {
                    check.same("guess of " + w + " at " + view, x.cell(w, view), 0);
                }
            }
        }
    }

    /** "When those are others that a WEARER LOOKS at .. its TABLE becomes such a one" */
    private static void tablesOfOtherLooks() {
        HatHall x = hallOf(3, 2);
        for (int w = 0; w < 3; w++) {
            alwaysGuess(x, w, 1);
        }
        x.looks(0, 6);
        check.same("the same ones: it stays", x.cell(0, 3), 1);
        check.no("looks that can't be", x.looks(0, 7));
        check.same("it stays then, too", x.cell(0, 0), 1);
        x.looks(0, 2);
        check.same("fewer", x.cell(0, 0) + x.cell(0, 1), 0);
        alwaysGuess(x, 0, 2);
        x.looks(0, 4);
        check.same("as many, but others", x.cell(0, 0) + x.cell(0, 1), 0);
        alwaysGuess(x, 0, 1);
        x.looks(0, 6);
        check.same("the first ones again", x.cell(0, 0) + x.cell(0, 1) + x.cell(0, 2) + x.cell(0, 3), 0);
        check.same("wearer 1 keeps its own", x.cell(1, 0) + x.cell(1, 3), 2);
        check.same("wearer 2 keeps its own", x.cell(2, 0) + x.cell(2, 3), 2);
    }

    /** "When those are others that a WEARER .. HEARS .. its TABLE becomes such a one" */
    private static void tablesOfOtherHearing() {
        HatHall x = hallOf(3, 2);
        for (int w = 0; w < 3; w++) {
            alwaysGuess(x, w, 1);
        }
        x.round(2, 0);
        check.same("the same round", x.cell(2, 0), 1);
        check.no("a round that can't be", x.round(2, 8));
        check.same("it stays then, too", x.cell(2, 0), 1);
        x.round(2, 1);
        check.same("who hears others", x.cell(2, 0), 0);
        check.same("who hears nobody, as before", x.cell(0, 0) + x.cell(1, 3), 2);
        x.tell(2, 0, 1);
        x.round(0, 1);
        check.same("2 hears one less", x.cell(2, 0), 0);
        check.same("0 hears one more", x.cell(0, 0), 0);
        check.same("1 hears nobody still", x.cell(1, 0), 1);
        x.tell(2, 0, 1);
        x.tell(0, 0, 1);
        x.round(2, 7);
        check.same("2 hears 0 again", x.cell(2, 0), 0);
        check.same("0 hears 1, as before", x.cell(0, 0), 1);
        x.tell(2, 0, 1);
        x.round(2, 2);
        check.same("another round, nobody else heard", x.cell(2, 0), 1);
    }

    /** "if it can have one; without a TABLE its GUESS is 0" */
    private static void withoutATable() {
        HatHall x = hallOf(8, 3);
        for (int row = 0; row < 6561; row += 410) {
            check.same("guess in row " + row, x.in(row, 3, 1), 0);
        }
        check.same("right where its hat is 0", x.rightOf(3), 2187);
        check.same("no look matters", x.idle(3), 0b11110111);
        check.no("nothing can be told", x.tell(3, 0, 1));
        check.missing("nothing can be asked", () -> x.cell(3, 0));
        check.same("nothing is drawn", x.draw(5), 0);
        HatHall y = hallOf(7, 3);
        alwaysGuess(y, 0, 1);
        y.round(0, 1);
        check.same("729 by 4096 views", y.about(0, 4), 2);
        check.same("it guessed 1 before", y.in(2186, 0, 1), 0);
    }

    /** "its TABLE becomes such a one, if it can have one": later again, then of 0. */
    private static void aTableAgain() {
        HatHall x = hallOf(7, 3);
        x.tell(0, 0, 2);
        x.tell(0, 728, 2);
        x.round(0, 1);
        check.same("none", x.about(0, 4), 2);
        x.round(0, 0);
        check.same("again", x.about(0, 4), 0);
        check.same("of 0, at 0", x.cell(0, 0), 0);
        check.same("of 0, at the last", x.cell(0, 728), 0);
    }

    /** "TEXTS' RULES stay" */
    private static void textsStay() {
        HatHall x = hallOf(3, 2);
        Check.told(x, "wearer 1 guess 1 - seen - heard;");
        x.looks(1, 1);
        check.same("other looks", x.about(1, 4), 1);
        check.same("it goes by them", x.in(4, 1, 1), 1);
        x.round(1, 2);
        check.same("other hearing", x.about(1, 4), 1);
        x.tell(0, 0, 1);
        check.same("it goes by that", x.in(0, 1, 1), 0);
        check.no("a hall that can't be", x.hall(9, 9));
        check.no("a view that isn't", x.tell(1, 18, 0));
        check.no("a guess that isn't", x.tell(1, 0, 3));
        check.same("a text with a fault", Check.told(x, "wearer 1 guess 0; wearer 1"), 1);
        x.draw(3);
        check.same("they all leave it", x.about(1, 4), 1);
        check.same("as it was", x.in(0, 1, 1), (1 + x.in(0, 0, 1) + x.in(0, 2, 1)) % 2);
        x.hall(8, 3);
        Check.told(x, "wearer 7 guess 2;");
        check.same("also without room for a table", x.about(7, 4), 1);
        check.no("which can't be told instead", x.tell(7, 0, 0));
        check.same("so it stays", x.in(0, 7, 1), 2);
    }

    /** "till n or q are told anew, or a TABLE is told of that WEARER" */
    private static void textsStayNoLonger() {
        HatHall x = hallOf(3, 2);
        Check.told(x, "wearer 0 guess 1; wearer 1 guess 1;");
        x.tell(0, 3, 1);
        check.same("a table is told", x.about(0, 4), 0);
        check.same("all others 0", x.cell(0, 0) + x.cell(0, 1) + x.cell(0, 2), 0);
        check.same("of that wearer alone", x.about(1, 4), 1);
        x.hall(3, 2);
        check.same("n and q told anew, though the same", x.about(1, 4), 0);
        check.same("a table of 0", x.in(0, 1, 1), 0);
        check.same("no texts", x.count(6), 0);
    }
}
