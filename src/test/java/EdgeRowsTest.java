/** The boundaries that the document's part 3 names (heap, laws, looks, likeness), a method for each sentence. */
public final class EdgeRowsTest {
    private static final int NONE = HatHall.NONE;
    private static final Check check = new Check();

    public static void main(String[] args) {
        heapZeroToNine();
        heapAtFirst();
        counts();
        weights();
        weightsBeyondInts();
        rightAndWrong();
        numberZeroToEight();
        lawSome();
        lawJust();
        lawNoneWrong();
        lawFew();
        lawAtFirst();
        lawsWhenAllPass();
        lawsBeyondTheWearers();
        idleInAnyRow();
        idleWithoutLooks();
        idleAsItHears();
        idleByAViewThatNeverComes();
        lookLess();
        lookMore();
        lookOfATextsRule();
        lookMoreThanATableHolds();
        alikeOfAtMostSix();
        alikeByLooksAndRounds();
        ring();
        check.end();
    }

    private static HatHall hallOf(int n, int q) {
        return check.hallOf(n, q);
    }

    private static void alwaysPass(HatHall x, int wearer) {
        for (int view = 0; view < x.about(wearer, 3); view++) {
            x.tell(wearer, view, x.count(1));
        }
    }

    private static int choose(int n, int k) {
        int ways = 1;
        for (int i = 0; i < k; i++) {
            ways = ways * (n - i) / (i + 1);
        }
        return ways;
    }

    /** "HEAP: of each COLOUR how many HATS there are (0 to 9)" */
    private static void heapZeroToNine() {
        HatHall x = hallOf(1, 4);
        for (int colour = 0; colour < 4; colour++) {
            for (int many = 0; many <= 9; many++) {
                check.yes("heap " + colour + ", " + many, x.heap(colour, many));
                check.same("a row of one hat weighs " + many, x.won(2), 8 * (3 - colour) + many);
            }
            check.no("-1", x.heap(colour, -1));
            check.no("10", x.heap(colour, 10));
            check.same("9 stays", x.won(2), 8 * (3 - colour) + 9);
            x.heap(colour, 0);
            check.same("a row whose colour isn't there", x.row(colour, 2), 0);
        }
        check.same("an empty heap", x.won(0), 0);
    }

    /** "8 of each at first" */
    private static void heapAtFirst() {
        HatHall x = hallOf(1, 4);
        check.same("8 of each", x.won(2), 32);
        x.hall(8, 2);
        check.same("eight of one colour are there", x.row(0, 2) + x.row(255, 2), 2);
        check.same("all rows count", x.won(0), 256);
        x.hall(8, 3);
        check.same("all rows of three colours, too", x.won(0), 6561);
    }

    /** "A ROW COUNTS, if it has of no COLOUR more than the HEAP" */
    private static void counts() {
        HatHall x = hallOf(8, 2);
        x.heap(0, 7);
        check.same("eight of seven", x.row(0, 2), 0);
        check.same("seven of seven", x.row(1, 2), 1);
        check.same("all rows but one", x.won(0), 255);
        x.heap(1, 1);
        check.same("one of one", x.row(128, 2), 1);
        check.same("two of one", x.row(129, 2), 0);
        check.same("seven and one", x.won(0), 8);
        x.heap(0, 6);
        check.same("seven hats for eight", x.won(0), 0);
        x.heap(0, 4);
        x.heap(1, 4);
        check.same("four and four", x.won(0), choose(8, 4));
        HatHall y = hallOf(4, 4);
        y.heap(0, 1);
        y.heap(1, 1);
        y.heap(2, 1);
        y.heap(3, 1);
        check.same("each colour once", y.won(0), 24);
        y.heap(3, 0);
        check.same("three hats for four", y.won(0), 0);
    }

    /** "its WEIGHT: in how many ways HATS of the HEAP, each by itself, can lie so" */
    private static void weights() {
        HatHall x = hallOf(8, 2);
        x.heap(1, 0);
        check.same("row 0 of eight", x.won(2), 40320);
        x.heap(0, 9);
        check.same("row 0 of nine", x.won(2), 362880);
        x.heap(0, 7);
        check.same("no row of seven", x.won(2), 0);
        HatHall y = hallOf(3, 2);
        y.heap(0, 2);
        y.heap(1, 1);
        check.same("two and one: three rows, each of 2 ways", y.won(2), 6);
        y.heap(1, 3);
        // Two of 0 and one of 1: 2 * 3 in three rows; one and two: 2 * 6 in three; three of 1: 6.
        check.same("two and three", y.won(2), 18 + 36 + 6);
    }

    /** Weights are added up as a long (promise 15). */
    private static void weightsBeyondInts() {
        HatHall x = hallOf(8, 3);
        long ways = 1;
        for (int i = 0; i < 8; i++) {
            ways *= 27 - i;
        }
        x.heap(0, 9);
        x.heap(1, 9);
        x.heap(2, 9);
        check.same("27 hats for eight heads", x.won(2), ways);
        x.law(0, 0);
        check.same("all of them won", x.won(3), ways);
        x.law(0, 1);
        long without = 1;
        for (int i = 0; i < 8; i++) {
            without *= 18 - i;
        }
        check.same("those with a hat of 0", x.won(3), ways - without);
    }

    /** "RIGHT is who guesses its HAT; WRONG who guesses another COLOUR." */
    private static void rightAndWrong() {
        HatHall x = hallOf(3, 4);
        Check.told(x, "wearer 0 guess 3; wearer 1 pass 1 guess 0; wearer 2 guess 0;");
        check.same("right in row 3", x.row(3, 0), 5);
        check.same("wrong in row 3", x.row(3, 1), 0);
        check.same("right in row 63", x.row(63, 0), 1);
        check.same("wrong in row 63", x.row(63, 1), 4);
        check.same("right in row 16", x.row(16, 0), 0);
        check.same("wrong in row 16", x.row(16, 1), 5);
    }

    /** "LAWS by which a ROW is WON, with a number k (0 to 8)" */
    private static void numberZeroToEight() {
        HatHall x = new HatHall();
        for (int law = 0; law <= 3; law++) {
            for (int k = 0; k <= 8; k++) {
                check.yes("law " + law + " with " + k, x.law(law, k));
                check.same("the law", x.count(3) * 9 + x.count(4), law * 9 + k);
            }
            check.no("with 9", x.law(law, 9));
            check.no("with -1", x.law(law, -1));
        }
        check.no("law 4", x.law(4, 1));
        check.no("law -1", x.law(-1, 1));
        check.same("the last one stays", x.count(3) * 9 + x.count(4), 35);
    }

    /** In tables of 0 those are right who have a hat of 0. */
    private static HatHall eight(int law, int k) {
        HatHall x = hallOf(8, 2);
        x.law(law, k);
        return x;
    }

    /** "0 SOME: at least k are RIGHT" */
    private static void lawSome() {
        int due = 0;
        for (int k = 8; k >= 0; k--) {
            due += choose(8, k);
            check.same("at least " + k, eight(0, k).won(1), due);
        }
        check.same("three of three", eight(0, 3).row(0b11111000, 3), 1);
        check.same("two of three", eight(0, 3).row(0b11111100, 3), 0);
    }

    /** "1 JUST: just k are RIGHT" */
    private static void lawJust() {
        for (int k = 0; k <= 8; k++) {
            check.same("just " + k, eight(1, k).won(1), choose(8, k));
        }
        check.same("three", eight(1, 3).row(0b11111000, 3), 1);
        check.same("two", eight(1, 3).row(0b11111100, 3), 0);
        check.same("four", eight(1, 3).row(0b11110000, 3), 0);
    }

    /** "2 NONE WRONG: nobody is WRONG, and at least k are RIGHT" */
    private static void lawNoneWrong() {
        for (int k = 0; k <= 8; k++) {
            check.same("none wrong of eight, " + k + " right", eight(2, k).won(1), 1);
        }
        HatHall x = hallOf(2, 2);
        alwaysPass(x, 1);
        int[] due = {2, 2, 0};
        for (int k = 0; k <= 2; k++) {
            x.law(2, k);
            check.same("one passes, " + k + " right", x.won(1), due[k]);
        }
        x.law(2, 1);
        check.same("one wrong", x.row(1, 3), 0);
        check.same("none wrong", x.row(2, 3), 1);
    }

    /** "3 FEW: at most k don't guess RIGHT" */
    private static void lawFew() {
        int due = 0;
        for (int k = 0; k <= 8; k++) {
            due += choose(8, k);
            check.same("at most " + k, eight(3, k).won(1), due);
        }
        check.same("three of three", eight(3, 3).row(0b00000111, 3), 1);
        check.same("four of three", eight(3, 3).row(0b00001111, 3), 0);
    }

    /** "At first 0 with 1." */
    private static void lawAtFirst() {
        HatHall x = new HatHall();
        check.same("law", x.count(3), 0);
        check.same("its number", x.count(4), 1);
        check.same("one right is enough", x.row(1, 3), 1);
        check.same("none right is not", x.row(3, 3), 0);
    }

    /** Who passes is neither right nor wrong, and doesn't guess right. */
    private static void lawsWhenAllPass() {
        HatHall x = hallOf(2, 2);
        alwaysPass(x, 0);
        alwaysPass(x, 1);
        int[][] due = {{0, 0, 4}, {0, 1, 0}, {1, 0, 4}, {1, 1, 0}, {2, 0, 4}, {2, 1, 0}, {3, 0, 0}, {3, 1, 0}, {3, 2, 4}};
        for (int[] d : due) {
            x.law(d[0], d[1]);
            check.same("all pass, law " + d[0] + " with " + d[1], x.won(1), d[2]);
        }
    }

    /** A number above n may be told, too. */
    private static void lawsBeyondTheWearers() {
        HatHall x = hallOf(1, 2);
        int[][] due = {{0, 1, 1}, {0, 2, 0}, {0, 8, 0}, {1, 2, 0}, {1, 8, 0}, {2, 2, 0}, {3, 0, 1}, {3, 1, 2}, {3, 8, 2}};
        for (int[] d : due) {
            x.law(d[0], d[1]);
            check.same("one wearer, law " + d[0] + " with " + d[1], x.won(1), d[2]);
        }
    }

    /** "A LOOK is IDLE, if no GUESS of that WEARER in any ROW were another if the HAT looked at were another one" */
    private static void idleInAnyRow() {
        HatHall x = hallOf(8, 2);
        check.same("all of them", x.idle(7), 127);
        x.tell(7, 127, 1);
        check.same("one view is enough for all looks", x.idle(7), 0);
        x.tell(7, 126, 1);
        check.same("but not for that at wearer 0", x.idle(7), 1);
        x.tell(7, 63, 1);
        x.tell(7, 62, 1);
        check.same("nor for that at wearer 6", x.idle(7), 65);
        x.heap(1, 0);
        check.same("in rows that don't count, too", x.idle(7), 65);
        HatHall y = hallOf(2, 4);
        y.tell(0, 3, 4);
        check.same("only the last colour makes it pass", y.idle(0), 0);
        y.tell(0, 0, 4);
        y.tell(0, 1, 4);
        y.tell(0, 2, 4);
        check.same("it always passes", y.idle(0), 2);
    }

    private static void idleWithoutLooks() {
        HatHall x = hallOf(3, 2);
        x.looks(1, 0);
        x.tell(1, 0, 1);
        check.same("no looks, none idle", x.idle(1), 0);
        x.looks(1, 4);
        check.same("only looks that there are", x.idle(1), 4);
        HatHall one = hallOf(1, 3);
        check.same("one wearer", one.idle(0), 0);
    }

    /** "(all others, and what it HEARS in that ROW, as they are)" */
    private static void idleAsItHears() {
        HatHall x = hallOf(2, 2);
        x.round(0, 1);
        // Views of wearer 0: the hat of 1, then 2 times its guess, which is 0 in every row.
        x.tell(0, 3, 1);
        x.tell(0, 5, 1);
        check.same("a guess that is never heard", x.idle(0), 2);
        x.tell(1, 1, 1);
        check.same("heard in rows 1 and 3", x.idle(0), 0);
        x.tell(0, 2, 1);
        check.same("both views of that guess alike", x.idle(0), 2);
        x.tell(0, 0, 1);
        check.same("heard in rows 0 and 2", x.idle(0), 0);
    }

    /**
     * "if the HAT looked at were another one (.. what it HEARS in that ROW, as they are)": wearer 2 guesses 1 only
     * by two hats that it sees, so wearer 0 never has the view told here, but would in one row by another hat of 1.
     */
    private static void idleByAViewThatNeverComes() {
        // The view of wearer 2, that of wearer 0 (hats of 1 and 2, then 4 and 12 times guesses), the row.
        int[][] due = {{0, 1 + 12, 0}, {2, 12, 2}, {3, 2 + 12, 7}, {1, 1 + 2 + 12, 5}};
        for (int[] d : due) {
            HatHall x = hallOf(3, 2);
            x.round(0, 1);
            check.same("nothing told", x.idle(0), 6);
            x.tell(2, d[0], 1);
            check.same("nothing told of wearer 0", x.idle(0), 6);
            x.tell(0, d[1], 1);
            check.same("wearer 2 guesses 1 in row " + d[2], x.in(d[2], 2, 1), 1);
            check.same("right there, but for the hat of 1", x.in(d[2], 0, 0) ^ 1, d[1]);
            for (int row = 0; row < 8; row++) {
                check.same("wearer 0 guesses 0 in row " + row, x.in(row, 0, 1), 0);
            }
            check.same("the look at 2 is idle, that at 1 is not", x.idle(0), 4);
        }
    }

    /** "A LOOK less": "a WEARER with a TABLE then has one of GUESSES 0" */
    private static void lookLess() {
        HatHall x = hallOf(2, 2);
        x.tell(0, 1, 1);
        x.tell(1, 0, 1);
        check.same("all are won", x.won(1), 4);
        check.same("0 without its look guesses 0", x.otherwise(0, 1), 3);
        check.same("1 without its look guesses 0", x.otherwise(1, 0), 3);
        check.same("nothing was told", x.won(1), 4);
        check.same("its looks", x.about(0, 0), 2);
        check.same("its table", x.cell(0, 1), 1);
        x.heap(0, 1);
        check.same("rows that count: 1, 2, 3", x.otherwise(0, 1), 2);
        x.law(0, 0);
        check.same("by the law that is told", x.otherwise(0, 1), 3);
        x.heap(1, 0);
        check.same("none counts", x.otherwise(0, 1), 0);
    }

    /** "more" */
    private static void lookMore() {
        HatHall x = hallOf(2, 2);
        x.looks(0, 0);
        x.tell(0, 0, 1);
        x.tell(1, 1, 1);
        check.same("0 guesses 1, 1 what it sees", x.won(1), 3);
        check.same("0 guesses 0 then", x.otherwise(0, 1), 3);
        x.law(0, 2);
        check.same("both right in row 3", x.beaten(2) * 10 + x.row(3, 3), 21);
        check.same("both right in row 0", x.otherwise(0, 1), 1);
        check.same("it looks at nobody still", x.about(0, 0), 0);
    }

    /** "its RULE (a TEXT's) going by that" */
    private static void lookOfATextsRule() {
        HatHall x = hallOf(2, 2);
        Check.told(x, "wearer 0 guess seen + 1; wearer 1 guess seen;");
        check.same("all are won", x.won(1), 4);
        check.same("0 guesses 1 without it", x.otherwise(0, 1), 3);
        x.looks(1, 0);
        check.same("1 guesses 0 without it", x.won(1), 3);
        check.same("with it again", x.otherwise(1, 0), 4);
        check.same("its rule stays a text's", x.about(1, 4), 1);
    }

    /** A look more may leave no room for a table: then the guess is 0. */
    private static void lookMoreThanATableHolds() {
        HatHall x = hallOf(8, 3);
        x.looks(0, 126);
        x.tell(0, 0, 1);
        x.heap(1, 0);
        x.law(0, 8);
        check.same("in row 0 wearer 0 is wrong", x.won(1), 0);
        check.same("without a table it is right", x.otherwise(0, 7), 1);
        check.same("it has its table still", x.cell(0, 0), 1);
        check.same("1 has none before and after", x.otherwise(1, 7), 0);
        x.tell(0, 0, 0);
        check.same("one that gets a table by a look less", x.otherwise(1, 7), 1);
    }

    /** "ALIKE: rows of all WEARERS (of at most 6)" */
    private static void alikeOfAtMostSix() {
        int due = 1;
        for (int n = 1; n <= 6; n++) {
            due *= n;
            check.same("alike of " + n, hallOf(n, 2).alike(), due);
        }
        check.same("of 7", hallOf(7, 2).alike(), NONE);
        check.same("of 8", hallOf(8, 3).alike(), NONE);
    }

    /** "by which, if each were put in the place of the one told, LOOKS and ROUNDS were the same" */
    private static void alikeByLooksAndRounds() {
        HatHall x = hallOf(4, 2);
        for (int w = 0; w < 4; w++) {
            x.looks(w, 1 << (w ^ 1));
        }
        check.same("two pairs", x.alike(), 8);
        x.round(0, 1);
        check.same("one of a pair later", x.alike(), 2);
        x.round(2, 1);
        check.same("one of each pair later", x.alike(), 2);
        x.round(1, 1);
        x.round(3, 1);
        check.same("all later", x.alike(), 8);
        x.tell(0, 0, 1);
        check.same("rules count for nothing", x.alike(), 8);
        x.looks(0, 0);
        check.same("only all stay, or the other pair", x.alike(), 2);
        x.looks(2, 0);
        check.same("like pairs again", x.alike(), 2);
        x.looks(1, 0);
        check.same("2 and 3 differ", x.alike(), 2);
        x.looks(0, 2);
        check.same("0 looks at 1, 3 at 2", x.alike(), 2);
        x.looks(0, 6);
        check.same("only the one in which all stay", x.alike(), 1);
    }

    /** "RING: the fewest WEARERS each of whom LOOKS at the next one, the last at the first." */
    private static void ring() {
        HatHall x = hallOf(8, 2);
        check.same("two look at each other", x.ring(), 2);
        for (int w = 0; w < 8; w++) {
            x.looks(w, 1 << (w + 1) % 8);
        }
        check.same("all eight", x.ring(), 8);
        for (int last = 7; last >= 1; last--) {
            x.looks(last, 1);
            check.same("back from " + last, x.ring(), last + 1);
        }
        for (int w = 0; w < 8; w++) {
            x.looks(w, (1 << w) - 1);
        }
        check.same("all at lesser ones alone", x.ring(), NONE);
        for (int w = 0; w < 8; w++) {
            x.looks(w, 0);
        }
        check.same("nobody looks", x.ring(), NONE);
        check.same("one wearer", hallOf(1, 2).ring(), NONE);
        // Wearers 0 to 4 in a ring, 5 to 7 in another.
        for (int w = 0; w < 8; w++) {
            x.looks(w, 1 << (w < 5 ? (w + 1) % 5 : 5 + (w - 4) % 3));
        }
        check.same("the lesser one of two", x.ring(), 3);
    }
}
