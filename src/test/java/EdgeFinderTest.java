/** The boundaries that the document's part 4 names (searches, sums, covers, lines ..), a method for each sentence. */
public final class EdgeFinderTest {
    private static final int NONE = HatHall.NONE;
    private static final int SPENT = -2;
    private static final Check check = new Check();

    public static void main(String[] args) {
        searchesInEveryRow();
        searchGoesByTheLeastWearer();
        searchTakesBack();
        searchSpent();
        searchOfUpToEight();
        searchOfEightWithFewLooks();
        searchFoundBecomesRules();
        searchWithoutPasses();
        sumsModQ();
        sumsBest();
        sumsFirstOfLikeOnes();
        sumsBecomeTables();
        coverOfOneToFive();
        coverFirstOfLikeOnes();
        coverGuesses();
        coverLooksAndRounds();
        lineOfOneToEight();
        lineGuesses();
        lineAsByAText();
        mendMoreThanWere();
        mendFirstOfLikeOnes();
        mendAsManyAsTold();
        mendPasses();
        mendAtMost256Views();
        mendJust256Views();
        mendAtMost256Rows();
        drawnByTheSeed();
        drawnBits();
        drawnByWrapping();
        drawnOfTablesAlone();
        slots();
        check.end();
    }

    private static HatHall hallOf(int n, int q) {
        return check.hallOf(n, q);
    }

    private static void cells(String what, HatHall x, int wearer, int... due) {
        check.same(what + ": views of " + wearer, x.about(wearer, 3), due.length);
        for (int view = 0; view < due.length; view++) {
            check.same(what + ": guess of " + wearer + " at " + view, x.cell(wearer, view), due[view]);
        }
    }

    /** "by which in every ROW (of all, not of those that COUNT alone) some WEARER is RIGHT" */
    private static void searchesInEveryRow() {
        HatHall x = hallOf(1, 2);
        x.heap(1, 0);
        check.same("row 1 must be won, too", x.search(5000), 0);
        HatHall y = hallOf(2, 2);
        y.heap(0, 0);
        y.heap(1, 0);
        check.same("none counts, all are sought", y.search(5000), 1);
        check.same("by as many steps", y.steps(), 5);
        for (int row = 0; row < 4; row++) {
            check.yes("somebody is right in row " + row, y.row(row, 0) != 0);
        }
        HatHall z = hallOf(2, 2);
        z.law(0, 0);
        z.looks(0, 0);
        check.same("the law counts for nothing", z.search(5000), 0);
    }

    /** "ROWS from 0 on; .. the least WEARER whose GUESS there isn't settled is settled to be RIGHT there" */
    private static void searchGoesByTheLeastWearer() {
        // Row 0: 0 at 0 says 0. Row 1: 1 at 1 says 0. Row 2: 0 at 1 says 0. Row 3: taken back to row 2,
        // where 1 at 0 says 1; then in row 3 wearer 0 at 1 says 1.
        HatHall x = hallOf(2, 2);
        check.same("found", x.search(5), 1);
        check.same("by five", x.steps(), 5);
        cells("five steps", x, 0, 0, 1);
        cells("five steps", x, 1, 1, 0);
        // Nine steps: rows 0 to 6 one each, row 6 once more by wearer 1, row 7 by wearer 0.
        HatHall y = hallOf(3, 2);
        check.same("too few", y.search(8), SPENT);
        check.same("found", y.search(9), 1);
        check.same("by nine", y.steps(), 9);
        cells("nine steps", y, 0, 0, 0, 0, 1);
        cells("nine steps", y, 1, 0, 0, 1, 0);
        cells("nine steps", y, 2, 0, 0, 0, 0);
    }

    /** "if that comes to no end, it is taken back, and the next such WEARER is tried" */
    private static void searchTakesBack() {
        for (int q = 2; q <= 4; q++) {
            HatHall x = hallOf(1, q);
            check.same("one wearer of " + q + " colours", x.search(5000), 0);
            check.same("one step", x.steps(), 1);
            check.same("one step is enough to know", x.search(1), 0);
        }
        // Nobody looks: row 0 by 0, row 1 by 1 (0), row 3 by none; row 0 by 1, row 2 by 0 (0), row 3 by none.
        HatHall x = hallOf(2, 2);
        x.looks(0, 0);
        x.looks(1, 0);
        check.same("nobody looks", x.search(4), 0);
        check.same("four steps", x.steps(), 4);
        check.same("three are too few", x.search(3), SPENT);
    }

    /** "SPENT: more STEPS would be needed than told." */
    private static void searchSpent() {
        HatHall x = hallOf(2, 2);
        x.tell(0, 0, 1);
        for (int steps = 0; steps < 5; steps++) {
            check.same("by " + steps, x.search(steps), SPENT);
            check.same("all were made", x.steps(), steps);
        }
        check.same("its table stays", x.cell(0, 0), 1);
        check.same("just enough", x.search(5), 1);
        check.same("more than enough", x.search(5000), 1);
        check.same("no more than needed", x.steps(), 5);
        HatHall y = hallOf(5, 3);
        for (int w = 0; w < 5; w++) {
            y.looks(w, 1 << (w + 1) % 5);
        }
        check.same("5000 are too few", y.search(5000), SPENT);
        check.same("5000 were made", y.steps(), 5000);
    }

    /** The least and the most wearers that can be found tables for, by just as many steps as the naive Model makes. */
    private static void searchOfUpToEight() {
        int[][] halls = {{2, 2}, {3, 2}, {4, 2}, {5, 2}, {6, 2}, {7, 2}, {8, 2}, {3, 3}, {4, 3}};
        for (int[] h : halls) {
            HatHall x = hallOf(h[0], h[1]);
            Model y = new Model();
            y.hall(h[0], h[1]);
            check.same("the Model finds them", y.search(5000), 1);
            check.same("just one step too few", x.search(y.steps() - 1), SPENT);
            check.same("just enough", x.search(y.steps()), 1);
            check.same("steps of " + h[0] + " with " + h[1], x.steps(), y.steps());
            check.same("no row is lost", x.beaten(0), NONE);
            for (int w = 0; w < h[0]; w++) {
                for (int view = 0; view < x.about(w, 3); view++) {
                    check.same("guess of " + w + " at " + view, x.cell(w, view), y.cell(w, view));
                }
            }
        }
    }

    /** Eight who look at few: the last row may be gone over, or is itself settled. */
    private static void searchOfEightWithFewLooks() {
        int[][] looks = {{2, 1, 0, 0, 0, 0, 0, 0}, {0, 4, 2, 0, 0, 0, 0, 0}, {0, 0, 0, 0, 0, 0, 128, 64},
                {128, 1, 2, 4, 8, 16, 32, 64}, {2, 1, 8, 4, 32, 16, 128, 64}, {2, 1, 1, 1, 1, 1, 1, 1}};
        for (int[] sets : looks) {
            HatHall x = hallOf(8, 2);
            Model y = new Model();
            y.hall(8, 2);
            for (int w = 0; w < 8; w++) {
                x.looks(w, sets[w]);
                y.looks(w, sets[w]);
            }
            check.same("the Model finds them", y.search(5000), 1);
            check.same("just one step too few", x.search(y.steps() - 1), SPENT);
            check.same("just enough", x.search(y.steps()), 1);
            check.same("steps", x.steps(), y.steps());
            check.same("no row is lost", x.beaten(0), NONE);
        }
    }

    /** "Those found become RULES (GUESSES that aren't settled 0)." */
    private static void searchFoundBecomesRules() {
        HatHall x = hallOf(3, 2);
        Check.told(x, "wearer 0 guess 1;");
        for (int view = 0; view < 4; view++) {
            x.tell(2, view, 2);
        }
        x.tell(1, 0, 1);
        check.same("spent", x.search(8), SPENT);
        check.same("a text's rule stays", x.about(0, 4), 1);
        check.same("a table stays", x.cell(2, 0), 2);
        check.same("found", x.search(9), 1);
        check.same("tables alone", x.count(6), 0);
        cells("not settled", x, 2, 0, 0, 0, 0);
        check.same("not settled, too", x.cell(1, 0), 0);
        HatHall y = hallOf(1, 2);
        Check.told(y, "wearer 0 guess 1;");
        check.same("there are none", y.search(1), 0);
        check.same("the text's rule stays", y.about(0, 4), 1);
    }

    /** "(all ROUNDS 0, no passes)" */
    private static void searchWithoutPasses() {
        HatHall x = hallOf(3, 3);
        x.round(2, 1);
        check.refused("a round isn't 0", () -> x.search(5000));
        x.round(2, 0);
        x.tell(1, 4, 3);
        check.same("found", x.search(5000), 1);
        for (int w = 0; w < 3; w++) {
            for (int view = 0; view < 9; view++) {
                check.yes("no pass", x.cell(w, view) < 3);
            }
        }
        check.same("every row", x.won(1), 27);
    }

    /** "each WEARER guesses a constant (0 to q - 1) less the sum of HATS it LOOKS at, MOD q" */
    private static void sumsModQ() {
        HatHall x = hallOf(3, 4);
        // All three right: their constants must be alike, and the sum of all hats just that.
        x.law(0, 3);
        check.same("all right in a fourth of the rows", x.sums(), 16);
        for (int w = 0; w < 3; w++) {
            check.same("constant of " + w, x.constant(w), 0);
            for (int view = 0; view < 16; view++) {
                check.same("guess of " + w + " at " + view, x.cell(w, view), (8 - view % 4 - view / 4) % 4);
            }
        }
        x.heap(0, 0);
        x.heap(1, 0);
        x.heap(2, 0);
        // Row 63 alone counts: the sum 9 leaves 1.
        check.same("one row", x.sums(), 1);
        check.same("by 1", x.constant(0) * 100 + x.constant(1) * 10 + x.constant(2), 111);
        HatHall y = hallOf(1, 4);
        y.heap(0, 0);
        y.heap(1, 0);
        y.heap(2, 0);
        check.same("one wearer", y.sums(), 1);
        check.same("the greatest constant", y.constant(0), 3);
    }

    /** "THE BEST constants: most ROWS that COUNT are WON" */
    private static void sumsBest() {
        for (int q = 2; q <= 4; q++) {
            HatHall x = hallOf(q, q);
            check.same("as many wearers as colours", x.sums(), x.count(2));
            for (int w = 0; w < q; w++) {
                check.same("each another", x.constant(w), w);
            }
        }
        HatHall x = hallOf(2, 2);
        x.heap(0, 0);
        x.heap(1, 1);
        check.same("none counts", x.sums(), 0);
        check.same("the first ones then", x.constant(0) * 2 + x.constant(1), 0);
        cells("none counts", x, 0, 0, 1);
    }

    /** "of like ones the first as a row by WEARERS" */
    private static void sumsFirstOfLikeOnes() {
        HatHall x = hallOf(3, 3);
        x.law(0, 0);
        check.same("all rows by any constants", x.sums(), 27);
        check.same("the first", x.constant(0) * 9 + x.constant(1) * 3 + x.constant(2), 0);
        HatHall y = hallOf(3, 2);
        check.same("two different ones", y.sums(), 8);
        check.same("0, 0, 1, not 0, 1, 0", y.constant(0) * 4 + y.constant(1) * 2 + y.constant(2), 1);
    }

    /** "They become RULES (TABLES; all need one)." */
    private static void sumsBecomeTables() {
        HatHall x = hallOf(2, 2);
        Check.told(x, "wearer 0 guess 1; wearer 1 pass 1 guess 1;");
        check.same("sums", x.sums(), 4);
        check.same("no texts", x.count(6), 0);
        cells("tables", x, 0, 0, 1);
        cells("tables", x, 1, 1, 0);
        HatHall y = hallOf(8, 3);
        check.refused("no tables", () -> y.sums());
    }

    /** "COVER (q 2, n 1 to 5): the fewest ROWS that are given up" */
    private static void coverOfOneToFive() {
        int[] due = {1, 2, 2, 4, 7};
        for (int n = 1; n <= 5; n++) {
            HatHall x = hallOf(n, 2);
            check.same("cover of " + n, x.cover(), due[n - 1]);
            int covered = 0;
            for (int row = 0; row < 1 << n; row++) {
                for (int i = 0; i < due[n - 1]; i++) {
                    if (Integer.bitCount(row ^ x.given(i)) <= 1) {
                        covered++;
                        break;
                    }
                }
            }
            check.same("all rows of " + n + " are covered", covered, 1 << n);
        }
        for (int n = 6; n <= 8; n++) {
            check.same("cover of " + n, hallOf(n, 2).cover(), NONE);
        }
        check.same("three colours", hallOf(1, 3).cover(), NONE);
        check.same("four colours", hallOf(5, 4).cover(), NONE);
    }

    /** "of like ones the first as a row of numbers" */
    private static void coverFirstOfLikeOnes() {
        int[][] due = {{0}, {0, 1}, {0, 7}, {0, 1, 14, 15}};
        for (int n = 1; n <= 4; n++) {
            int[] first = firstCover(n, due[n - 1].length);
            HatHall x = hallOf(n, 2);
            x.cover();
            for (int i = 0; i < first.length; i++) {
                check.same("by hand " + i + " of " + n, first[i], due[n - 1][i]);
                check.same("given " + i + " of " + n, x.given(i), due[n - 1][i]);
            }
        }
        int[] five = firstCover(5, 7);
        HatHall x = hallOf(5, 2);
        x.cover();
        for (int i = 0; i < 7; i++) {
            check.same("given " + i + " of 5", x.given(i), five[i]);
        }
    }

    /** Every choice of so many rows, the first as a row of numbers that covers all. */
    private static int[] firstCover(int n, int many) {
        int[] chosen = new int[many];
        for (int i = 0; i < many; i++) {
            chosen[i] = i;
        }
        while (!covers(chosen, n)) {
            int at = many - 1;
            while (chosen[at] == (1 << n) - many + at) {
                at--;
            }
            chosen[at]++;
            for (int i = at + 1; i < many; i++) {
                chosen[i] = chosen[i - 1] + 1;
            }
        }
        return chosen;
    }

    private static boolean covers(int[] chosen, int n) {
        long covered = 0;
        for (int row : chosen) {
            covered |= 1L << row;
            for (int w = 0; w < n; w++) {
                covered |= 1L << (row ^ 1 << w);
            }
        }
        return covered == (1L << (1 << n)) - 1;
    }

    /** "guesses the COLOUR by which the ROW isn't given up ..; if by none it is, it PASSES; if by both, it guesses 0" */
    private static void coverGuesses() {
        HatHall one = hallOf(1, 2);
        one.cover();
        cells("row 0 is given up", one, 0, 1);
        HatHall two = hallOf(2, 2);
        two.cover();
        // Rows 0 and 1 are given up: for wearer 0 both or none, for wearer 1 always the row by colour 0.
        cells("both, none", two, 0, 0, 2);
        cells("the other one", two, 1, 1, 1);
        HatHall three = hallOf(3, 2);
        three.cover();
        for (int w = 0; w < 3; w++) {
            cells("rows 0 and 7", three, w, 1, 2, 2, 0);
        }
    }

    /** "all LOOK at all others, ROUNDS are 0" */
    private static void coverLooksAndRounds() {
        HatHall x = hallOf(3, 2);
        x.looks(0, 0);
        x.looks(1, 4);
        x.round(0, 7);
        x.round(2, 1);
        Check.told(x, "wearer 1 guess 1;");
        x.cover();
        for (int w = 0; w < 3; w++) {
            check.same("looks of " + w, x.about(w, 0), 7 - (1 << w));
            check.same("round of " + w, x.about(w, 1), 0);
            check.same("hears of " + w, x.about(w, 2), 0);
            check.same("rule of " + w, x.about(w, 4), 0);
        }
        HatHall y = hallOf(3, 3);
        y.looks(0, 2);
        y.round(0, 1);
        check.same("no cover", y.cover(), NONE);
        check.same("its looks stay", y.about(0, 0), 2);
        check.same("its round stays", y.about(0, 1), 1);
    }

    /** "WEARER i LOOKS at all greater ones, its ROUND is i (n at most 8)" */
    private static void lineOfOneToEight() {
        for (int n = 1; n <= 8; n++) {
            HatHall x = hallOf(n, n < 7 ? 4 : 3);
            check.same("one wrong of " + n, x.line(), 1);
            for (int w = 0; w < n; w++) {
                check.same("looks of " + w, x.about(w, 0), (1 << n) - (2 << w));
                check.same("round of " + w, x.about(w, 1), w);
                check.same("hears of " + w, x.about(w, 2), (1 << w) - 1);
                check.same("right " + w, x.rightOf(w), w == 0 ? x.count(2) / x.count(1) : x.count(2));
            }
        }
    }

    /** "WEARER 0 guesses the sum of what it sees, MOD q, each other one what WEARER 0 guessed, less .." */
    private static void lineGuesses() {
        HatHall x = hallOf(3, 4);
        x.line();
        // Row 63: all hats are 3; wearer 0 sees 6, which is 2.
        check.same("6 MOD 4", x.in(63, 0, 1), 2);
        check.same("2 - 3", x.in(63, 1, 1), 3);
        check.same("2 - 3", x.in(63, 2, 1), 3);
        HatHall one = hallOf(1, 3);
        check.same("nobody to see", one.line(), 1);
        check.same("the sum of none", one.in(2, 0, 1), 0);
        HatHall few = hallOf(3, 2);
        few.heap(1, 0);
        check.same("row 0 alone counts: nobody is wrong", few.line(), 0);
        few.heap(0, 0);
        check.same("none counts", few.line(), NONE);
    }

    /** "They become RULES, as if told by a TEXT." */
    private static void lineAsByAText() {
        HatHall x = hallOf(3, 3);
        x.tell(0, 0, 2);
        x.line();
        check.same("texts", x.count(6), 3);
        check.missing("no table", () -> x.cell(0, 0));
        check.same("nothing is drawn", x.draw(1), 0);
        x.looks(0, 0);
        check.same("it stays with other looks", x.about(0, 4), 1);
        check.same("and sees nothing then", x.in(26, 0, 1), 0);
        x.tell(0, 0, 1);
        check.same("a table told of one", x.count(6), 2);
        check.same("which the next one hears: 1 - 2", x.in(26, 1, 1), 2);
        // 1, less 0 that it sees, less 2 that it hears of wearer 1.
        check.same("and the last one", x.in(26, 2, 1), 2);
        x.hall(3, 3);
        check.same("till n and q are told anew", x.count(6), 0);
    }

    /** "that one other GUESS by which most ROWS that COUNT are WON, if that are more than were" */
    private static void mendMoreThanWere() {
        HatHall x = hallOf(2, 2);
        check.same("no guess brings more", x.mend(20), 0);
        x.tell(0, 1, 1);
        check.same("one does", x.mend(20), 1);
        check.same("all are won", x.won(1), 4);
        check.same("none can bring more", x.mend(20), 0);
        x.hall(2, 2);
        x.heap(0, 0);
        // Row 3 alone counts.
        check.same("in rows that count", x.mend(20), 1);
        check.same("wearer 0, view 1", x.cell(0, 1), 1);
        x.heap(1, 0);
        check.same("none counts", x.mend(20), 0);
    }

    /** "of like ones the least WEARER, then VIEW, then GUESS" */
    private static void mendFirstOfLikeOnes() {
        HatHall x = hallOf(2, 3);
        allPass(x);
        check.same("one", x.mend(1), 1);
        cells("wearer 0, view 0, guess 0", x, 0, 0, 3, 3);
        check.same("one more", x.mend(1), 1);
        cells("wearer 0, view 1, guess 0", x, 0, 0, 0, 3);
        check.same("two more", x.mend(2), 2);
        cells("wearer 0, view 2, guess 0", x, 0, 0, 0, 0);
        // Where the hat of 0 is 0 all is won: wearer 1 begins at view 1.
        cells("then wearer 1", x, 1, 3, 0, 3);
    }

    private static void allPass(HatHall x) {
        for (int w = 0; w < x.count(0); w++) {
            for (int view = 0; view < x.about(w, 3); view++) {
                x.tell(w, view, x.count(1));
            }
        }
    }

    /** "and so on, until none is, or so many were made as told" */
    private static void mendAsManyAsTold() {
        HatHall x = hallOf(5, 2);
        allPass(x);
        check.same("none told", x.mend(0), 0);
        check.same("none won", x.won(1), 0);
        // Wearer 0 always says 0 (16), then 1 where it sees hat 1 of 0 (8), then 2 (4), 3 (2), 4 (1).
        check.same("twenty", x.mend(20), 20);
        check.same("twenty won", x.won(1), 20);
        check.same("until none is", x.mend(20), 11);
        check.same("all but the last row", x.beaten(0), 31);
        check.same("no more", x.mend(20), 0);
        check.same("19 of them", mended(19), 19);
        check.same("1 of them", mended(1), 1);
    }

    private static int mended(int most) {
        HatHall x = hallOf(5, 2);
        allPass(x);
        int made = x.mend(most);
        check.same("won by " + most, x.won(1), made);
        return made;
    }

    /** "GUESSES (0 to q)" */
    private static void mendPasses() {
        HatHall x = hallOf(1, 4);
        x.law(2, 0);
        check.same("to pass is best", x.mend(20), 1);
        check.same("it passes", x.cell(0, 0), 4);
        x.law(0, 1);
        check.same("to guess is best", x.mend(20), 1);
        check.same("the least guess", x.cell(0, 0), 0);
        x.heap(0, 0);
        x.heap(1, 0);
        x.heap(2, 0);
        check.same("the last colour", x.mend(20), 1);
        check.same("the last guess", x.cell(0, 0), 3);
    }

    /** "VIEWS of all with TABLES together .. at most 256" */
    private static void mendAtMost256Views() {
        HatHall x = hallOf(4, 4);
        check.same("256", x.mend(1), 0);
        HatHall y = hallOf(8, 2);
        check.same("1024", y.mend(1), NONE);
        for (int w = 0; w < 8; w++) {
            y.looks(w, 0b11111000 & ~(1 << w) | (w >= 3 ? 1 : 0));
            check.same("32 each", y.about(w, 3), 32);
        }
        check.same("256 of eight", y.mend(0), 0);
        // Row 255 alone counts, in which only wearer 7 is wrong.
        for (int w = 0; w < 7; w++) {
            y.tell(w, 31, 2);
        }
        y.heap(0, 0);
        y.law(2, 0);
        check.same("the last of them can be mended", y.mend(20), 1);
        check.same("it is", y.cell(7, 31), 1);
        y.looks(0, 0b11111100);
        check.same("288", y.mend(0), NONE);
        Check.told(y, "wearer 0 guess 0;");
        check.same("a text's are none", y.mend(0), 0);
        HatHall z = hallOf(3, 4);
        z.looks(0, 0);
        z.round(0, 1);
        z.looks(1, 0);
        z.looks(2, 0);
        check.same("25, 1, 1", z.mend(0), 0);
        z.looks(0, 6);
        check.same("400, 1, 1", z.mend(0), NONE);
    }

    /** Eight wearers, each of whom looks at so many others; the last one goes by a text, if told. */
    private static HatHall lookers(boolean text, int... looks) {
        HatHall x = hallOf(8, 2);
        for (int w = 0; w < 8; w++) {
            int others = 255 & ~(1 << w);
            while (Integer.bitCount(others) > looks[w]) {
                others &= others - 1;
            }
            x.looks(w, others);
            check.same("views of " + w, x.about(w, 3), 1 << looks[w]);
        }
        if (text) {
            Check.told(x, "wearer 7 guess 0;");
        }
        return x;
    }

    /** "VIEWS of all with TABLES together .. at most 256": 256 are fine, 257 are not. */
    private static void mendJust256Views() {
        check.same("256", lookers(false, 7, 6, 5, 4, 3, 2, 1, 1).mend(0), 0);
        check.same("257", lookers(false, 7, 6, 5, 4, 3, 2, 2, 0).mend(0), NONE);
        check.same("256, and one by a text", lookers(true, 7, 6, 5, 4, 3, 2, 2, 0).mend(0), 0);
        check.same("256, and many by a text", lookers(true, 7, 6, 5, 4, 3, 2, 2, 7).mend(0), 0);
        check.same("257, and one by a text", lookers(true, 7, 6, 5, 4, 3, 3, 0, 0).mend(0), NONE);
        HatHall x = lookers(false, 1, 1, 2, 3, 4, 5, 6, 7);
        // Row 255 alone counts, and all pass there but wearer 7, who is wrong at its last view.
        allPass(x);
        x.heap(0, 0);
        x.tell(7, 127, 0);
        x.law(2, 0);
        check.same("the last of 256 views", x.mend(20), 1);
        check.same("it is mended", x.cell(7, 127), 1);
    }

    /** "and ROWS, at most 256 each" */
    private static void mendAtMost256Rows() {
        int[][] halls = {{8, 2, 256}, {4, 4, 256}, {5, 3, 243}, {6, 3, 729}, {5, 4, 1024}, {8, 3, 6561}};
        for (int[] h : halls) {
            HatHall x = hallOf(h[0], h[1]);
            for (int w = 0; w < h[0]; w++) {
                x.looks(w, 0);
            }
            check.same(h[2] + " rows", x.mend(0), h[2] <= 256 ? 0 : NONE);
        }
    }

    /** The numbers that many a C library gives from seed 1 on. */
    private static final int[] FROM_ONE = {16838, 5758, 10113, 17515, 31051, 5627, 23010, 7419, 16212, 4086};

    /** "the seed becomes itself times 1103515245 and 12345 .. the GUESS is its bits 16 to 30 MOD q" */
    private static void drawnByTheSeed() {
        for (int q = 2; q <= 4; q++) {
            HatHall x = hallOf(2, q);
            check.same("how many", x.draw(1), 2 * q);
            for (int i = 0; i < 2 * q; i++) {
                check.same("guess " + i + " of " + q + " colours", x.cell(i / q, i % q), FROM_ONE[i] % q);
            }
        }
    }

    private static int[] drawn(int seed) {
        HatHall x = hallOf(2, 3);
        check.same("how many by " + seed, x.draw(seed), 6);
        int[] guesses = new int[6];
        for (int i = 0; i < 6; i++) {
            guesses[i] = x.cell(i / 3, i % 3);
        }
        return guesses;
    }

    /** "bits 16 to 30": not the highest one. */
    private static void drawnBits() {
        int[] low = drawn(5);
        int[] high = drawn(5 + (1 << 31));
        for (int i = 0; i < 6; i++) {
            check.same("bit 31 counts for nothing, " + i, high[i], low[i]);
        }
    }

    /** "(an int that wraps)" */
    private static void drawnByWrapping() {
        int[] seeds = {0, 1, -1, 12345, Integer.MAX_VALUE, Integer.MIN_VALUE, 1103515245, -1103515245};
        for (int seed : seeds) {
            int[] got = drawn(seed);
            java.math.BigInteger now = java.math.BigInteger.valueOf(seed);
            for (int i = 0; i < 6; i++) {
                now = now.multiply(java.math.BigInteger.valueOf(1103515245)).add(java.math.BigInteger.valueOf(12345))
                        .mod(java.math.BigInteger.ONE.shiftLeft(32));
                check.same("guess " + i + " by " + seed, got[i], now.longValue() / 65536 % 32768 % 3);
            }
        }
    }

    /** "WEARERS from 0 on, those with a TABLE, VIEWS from 0 on" */
    private static void drawnOfTablesAlone() {
        HatHall x = hallOf(3, 4);
        x.looks(0, 4);
        x.looks(2, 0);
        Check.told(x, "wearer 1 guess 2;");
        check.same("four and one", x.draw(1), 5);
        for (int i = 0; i < 4; i++) {
            check.same("guess of 0", x.cell(0, i), FROM_ONE[i] % 4);
        }
        check.same("guess of 2", x.cell(2, 0), FROM_ONE[4] % 4);
        check.same("the text's rule stays", x.in(0, 1, 1), 2);
        x.hall(8, 3);
        check.same("no tables", x.draw(1), 0);
        x.looks(5, 0);
        check.same("one of one view", x.draw(1), 1);
        check.same("by the first number", x.cell(5, 0), FROM_ONE[0] % 3);
        x.hall(6, 4);
        check.same("all tables are full", x.draw(1), 6 * 1024);
        check.same("the first", x.cell(0, 0), FROM_ONE[0] % 4);
        check.same("the tenth", x.cell(0, 9), FROM_ONE[9] % 4);
    }

    /** "SLOTS 0 to 3 keep n, q, LOOKS, ROUNDS, RULES (nothing at first)." */
    private static void slots() {
        HatHall x = new HatHall();
        for (int slot = -1; slot <= 4; slot++) {
            check.no("nothing in " + slot, x.take(slot));
        }
        for (int slot = 0; slot < 4; slot++) {
            x.hall(slot + 2, 2);
            x.looks(0, 1 << slot + 1);
            x.tell(0, 1, slot % 3);
            x.round(slot + 1, slot + 4);
            Check.told(x, "wearer 1 guess " + slot + ";");
            check.yes("keep " + slot, x.keep(slot));
        }
        check.no("keep -1", x.keep(-1));
        check.no("keep 4", x.keep(4));
        x.hall(8, 3);
        x.law(3, 3);
        x.heap(0, 5);
        for (int slot = 3; slot >= 0; slot--) {
            check.yes("take " + slot, x.take(slot));
            check.same("n of " + slot, x.count(0), slot + 2);
            check.same("q of " + slot, x.count(1), 2);
            check.same("looks of " + slot, x.about(0, 0), 1 << slot + 1);
            check.same("round of " + slot, x.about(slot + 1, 1), slot + 4);
            check.same("table of " + slot, x.cell(0, 1), slot % 3);
            check.same("text of " + slot, x.in(0, 1, 1), slot % 2);
            check.same("the law isn't kept", x.count(3) * 10 + x.count(4), 33);
        }
        x.hall(1, 2);
        check.same("nor the heap", x.won(2), 5 + 8);
    }
}
