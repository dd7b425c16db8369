/** Calls that are refused, and questions, change nothing: a hall is the same with and without them. */
public final class RefusalTest {
    private static final int NONE = HatHall.NONE;
    private static final int LEAST = Integer.MIN_VALUE;
    private static final int MOST = Integer.MAX_VALUE;
    private static final Check check = new Check();

    interface Change {
        void make(HatHall x);
    }

    interface Question {
        long ask(HatHall x);
    }

    public static void main(String[] args) {
        noSuchWearer();
        noSuchWhat();
        noSuchRow();
        falseAnswers();
        noneAnswers();
        illegalArguments();
        bytesOfTheTape();
        searchWithoutTables();
        faults();
        questions();
        check.end();
    }

    /** A hall in which something of every kind was told and found. */
    private static HatHall used() {
        HatHall x = new HatHall();
        x.hall(2, 2);
        x.cover();
        x.sums();
        x.search(4);
        x.keep(1);
        x.looks(1, 0);
        x.tell(1, 0, 2);
        x.round(1, 3);
        x.tell(1, 1, 1);
        Check.told(x, "wearer 0 guess 1; foo");
        Check.told(x, "wearer 0 pass heard guess 1 - seen;");
        Check.told(x, "wearer 1 guess 5000;");
        x.keep(3);
        x.heap(0, 7);
        x.law(0, 2);
        x.feed(1, 2, 3, 4, 5);
        return x;
    }

    private static void unchanged(String what, Change setup, Change call) {
        HatHall with = used();
        HatHall without = used();
        setup.make(with);
        setup.make(without);
        call.make(with);
        String got = Picture.of(with);
        String due = Picture.of(without);
        check.yes(what + " changes nothing", got.equals(due));
        if (!got.equals(due)) {
            System.out.println(due + "----\n" + got);
        }
    }

    private static void asIs(HatHall x) {
        check.same("two wearers", x.count(0), 2);
    }

    private static void missing(String what, Question call) {
        unchanged(what, RefusalTest::asIs, x -> check.missing(what, () -> call.ask(x)));
    }

    private static void refused(String what, Change setup, Question call) {
        unchanged(what, setup, x -> check.refused(what, () -> call.ask(x)));
    }

    private static void answers(String what, Change setup, long due, Question call) {
        unchanged(what, setup, x -> check.same(what, call.ask(x), due));
    }

    private static long bit(boolean b) {
        return b ? 1 : 0;
    }

    /** "NoSuchElementException: no such WEARER (as everywhere)" */
    private static void noSuchWearer() {
        for (int w : new int[] {-1, 2, 3, 8, 31, 32, LEAST, MOST}) {
            missing("looks of " + w, x -> bit(x.looks(w, 0)));
            missing("round of " + w, x -> bit(x.round(w, 0)));
            missing("looks that aren't of " + w, x -> bit(x.looks(w, -1)));
            missing("a round that isn't of " + w, x -> bit(x.round(w, 8)));
            missing("about " + w, x -> x.about(w, 0));
            missing("tell " + w, x -> bit(x.tell(w, 0, 0)));
            missing("tell what isn't of " + w, x -> bit(x.tell(w, -1, -1)));
            missing("cell of " + w, x -> x.cell(w, 0));
            missing("in of " + w, x -> x.in(0, w, 1));
            missing("rightOf " + w, x -> x.rightOf(w));
            missing("idle of " + w, x -> x.idle(w));
            missing("otherwise of " + w, x -> x.otherwise(w, 0));
            missing("otherwise at " + w, x -> x.otherwise(0, w));
            missing("otherwise, both " + w, x -> x.otherwise(w, w));
            missing("constant of " + w, x -> x.constant(w));
        }
    }

    /** "NoSuchElementException: .. another what" */
    private static void noSuchWhat() {
        for (int what : new int[] {-1, LEAST, MOST}) {
            missing("about " + what, x -> x.about(0, what));
            missing("in " + what, x -> x.in(0, 0, what));
            missing("row " + what, x -> x.row(0, what));
            missing("won " + what, x -> x.won(what));
            missing("worst " + what, x -> x.worst(what));
            missing("count " + what, x -> x.count(what));
            missing("given " + what, x -> x.given(what));
            missing("cell " + what, x -> x.cell(1, what));
        }
        missing("about 5", x -> x.about(0, 5));
        missing("in 2", x -> x.in(0, 0, 2));
        missing("row 4", x -> x.row(0, 4));
        missing("won 4", x -> x.won(4));
        missing("worst 2", x -> x.worst(2));
        missing("count 7", x -> x.count(7));
        missing("given 2", x -> x.given(2));
        missing("cell 3", x -> x.cell(1, 3));
        missing("cell of a text's rule", x -> x.cell(0, 0));
    }

    /** "NoSuchElementException: also no such ROW (as everywhere)" */
    private static void noSuchRow() {
        for (int row : new int[] {-1, 4, 6561, LEAST, MOST}) {
            for (int what = -1; what <= 4; what++) {
                int asked = what;
                missing("row " + row, x -> x.row(row, asked));
            }
            for (int what = -1; what <= 2; what++) {
                int asked = what;
                missing("in row " + row, x -> x.in(row, 0, asked));
            }
        }
    }

    private static void no(String what, Question call) {
        answers(what, RefusalTest::asIs, 0, call);
    }

    /** "False: .." */
    private static void falseAnswers() {
        int[][] halls = {{0, 2}, {9, 2}, {-1, 2}, {2, 1}, {2, 5}, {2, -2}, {7, 4}, {8, 4}, {LEAST, 2}, {2, MOST},
                {1 << 8 | 2, 2}, {0, 0}};
        for (int[] h : halls) {
            no("hall " + h[0] + ", " + h[1], x -> bit(x.hall(h[0], h[1])));
        }
        for (int set : new int[] {1, 3, 4, 6, -1, 32, LEAST, MOST}) {
            no("looks " + set, x -> bit(x.looks(0, set)));
        }
        for (int round : new int[] {-1, 8, LEAST, MOST}) {
            no("round " + round, x -> bit(x.round(1, round)));
        }
        int[][] heaps = {{2, 5}, {-1, 5}, {4, 5}, {0, -1}, {0, 10}, {1, LEAST}, {1, MOST}, {LEAST, 0}, {MOST, 0}};
        for (int[] h : heaps) {
            no("heap " + h[0] + ", " + h[1], x -> bit(x.heap(h[0], h[1])));
        }
        int[][] laws = {{-1, 1}, {4, 1}, {0, -1}, {3, 9}, {LEAST, 0}, {MOST, 0}, {1, LEAST}, {1, MOST}};
        for (int[] l : laws) {
            no("law " + l[0] + ", " + l[1], x -> bit(x.law(l[0], l[1])));
        }
        int[][] tells = {{1, 3, 0}, {1, -1, 0}, {1, 0, 3}, {1, 0, -1}, {1, LEAST, 0}, {1, MOST, 0}, {1, 0, LEAST},
                {1, 0, MOST}, {0, 2, 0}, {0, 0, 3}, {0, -1, -1}};
        for (int[] t : tells) {
            no("tell " + t[0] + ", " + t[1] + ", " + t[2], x -> bit(x.tell(t[0], t[1], t[2])));
        }
        answers("tell without a table", x -> x.hall(8, 3), 0, x -> bit(x.tell(0, 0, 0)));
        for (int slot : new int[] {-1, 4, LEAST, MOST}) {
            no("keep " + slot, x -> bit(x.keep(slot)));
            no("take " + slot, x -> bit(x.take(slot)));
        }
        no("take 0", x -> bit(x.take(0)));
        no("take 2", x -> bit(x.take(2)));
    }

    /** "NONE: .." */
    private static void noneAnswers() {
        answers("feed to a full tape", x -> {
            while (x.feed(7, 7, 7, 7, 7) != 500) {
                check.yes("not yet full", x.count(5) < 500);
            }
        }, NONE, x -> x.feed(0, 0, 0, 0, 0));
        answers("beaten -1", RefusalTest::asIs, NONE, x -> x.beaten(-1));
        answers("beaten 4", RefusalTest::asIs, NONE, x -> x.beaten(4));
        answers("otherwise, both one", RefusalTest::asIs, NONE, x -> x.otherwise(1, 1));
        answers("ring", RefusalTest::asIs, NONE, x -> x.ring());
        answers("alike of 7", x -> x.hall(7, 2), NONE, x -> x.alike());
        answers("cover of 6", x -> x.hall(6, 2), NONE, x -> x.cover());
        answers("cover of three colours", x -> {
            x.hall(2, 3);
            x.looks(0, 0);
            x.round(1, 1);
        }, NONE, x -> x.cover());
        answers("mend with too many views", x -> x.hall(5, 3), NONE, x -> x.mend(20));
        answers("mend with too many rows", x -> {
            x.hall(6, 3);
            for (int w = 0; w < 6; w++) {
                x.looks(w, 0);
            }
        }, NONE, x -> x.mend(20));
        answers("mend of none", RefusalTest::asIs, 0, x -> x.mend(0));
        answers("draw without tables", x -> x.hall(8, 3), 0, x -> x.draw(1));
    }

    /** "IllegalArgumentException: .." */
    private static void illegalArguments() {
        for (int n : new int[] {-1, 21, 500, 501, LEAST, MOST}) {
            refused("rules " + n, RefusalTest::asIs, x -> x.rules(n));
        }
        refused("rules 1 of none", x -> x.rules(0), x -> x.rules(1));
        for (int steps : new int[] {-1, 5001, LEAST, MOST}) {
            refused("search " + steps, x -> x.round(1, 0), x -> x.search(steps));
            refused("search in rounds " + steps, RefusalTest::asIs, x -> x.search(steps));
        }
        refused("search with a round", RefusalTest::asIs, x -> x.search(5000));
        refused("search with all in round 1", x -> {
            x.round(0, 1);
            x.round(1, 1);
        }, x -> x.search(5000));
        refused("search with too many views", x -> x.hall(8, 3), x -> x.search(5000));
        refused("search with too many views of one", x -> {
            x.hall(8, 3);
            for (int w = 0; w < 7; w++) {
                x.looks(w, 0);
            }
        }, x -> x.search(5000));
        refused("search, one has a text's rule, but too many views", x -> {
            x.hall(8, 3);
            for (int w = 0; w < 7; w++) {
                x.looks(w, 0);
            }
            x.rules(0);
            Check.told(x, "wearer 7 guess 1;");
        }, x -> x.search(5000));
        refused("sums with a round", RefusalTest::asIs, x -> x.sums());
        refused("sums with too many views", x -> x.hall(8, 3), x -> x.sums());
        refused("sums with too many rows", x -> x.hall(6, 3), x -> x.sums());
        for (int most : new int[] {-1, 21, LEAST, MOST}) {
            refused("mend " + most, RefusalTest::asIs, x -> x.mend(most));
            refused("mend too many views " + most, x -> x.hall(8, 3), x -> x.mend(most));
        }
    }

    /** "and none come", "(nothing changes)": the bytes on the tape stay those that came. */
    private static void bytesOfTheTape() {
        HatHall x = new HatHall();
        feed(x, "wearer 0 guess 1;   ", 1);
        feed(x, " ".repeat(20), 23);
        feed(x, "   wearer 1 guess 1;", 1);
        check.same("it is full", x.count(5), 500);
        check.same("more don't come", x.feed(1, 2, 3, 4, 5), NONE);
        check.refused("501", () -> x.rules(501));
        check.refused("-1", () -> x.rules(-1));
        check.same("all are there", x.rules(500), 0);
        check.same("both rules", x.in(0, 0, 1) * 10 + x.in(0, 1, 1), 11);
        check.same("it is empty", x.count(5), 0);
        check.refused("no byte is left", () -> x.rules(1));
        feed(x, "wearer 0 guess 0;   ", 1);
        check.same("the first bytes alone", x.rules(17), 0);
        check.same("as they came", x.in(0, 0, 1), 0);
        feed(x, "wearer 1 guess 0;   ", 1);
        check.same("those behind them are gone", x.rules(20), 0);
        check.same("no old bytes", x.in(0, 1, 1), 0);
        feed(x, "!wearer 1 guess 1;  ", 2);
        check.same("a fault", x.rules(3), 1);
        check.same("empty behind a fault, too", x.count(5), 0);
    }

    private static void feed(HatHall x, String twenty, int times) {
        int[] numbers = new int[5];
        for (int i = 0; i < 20; i++) {
            numbers[i / 4] = numbers[i / 4] << 8 | twenty.charAt(i);
        }
        int before = x.count(5);
        for (int i = 1; i <= times; i++) {
            int many = x.feed(numbers[0], numbers[1], numbers[2], numbers[3], numbers[4]);
            check.same("twenty come", many, before + 20 * i);
        }
    }

    /** "0 there are none, -2 SPENT (RULES stay of both)": only steps() is another. */
    private static void searchWithoutTables() {
        Change atOnce = x -> {
            x.round(1, 0);
            x.tell(1, 0, 2);
            x.looks(0, 2);
        };
        unchanged("search that is spent", x -> {
            atOnce.make(x);
            x.search(2);
        }, x -> check.same("spent", x.search(2), -2));
        unchanged("search that finds none", x -> {
            atOnce.make(x);
            x.search(5000);
        }, x -> check.same("none", x.search(5000), 0));
    }

    /** "or the FAULT (all RULES stay)": only the tape and fault() are others. */
    private static void faults() {
        String[] texts = {"wearer 0 guess 0; wearer 1 guess 0; !", "wearer 0 guess 0; wearer 1 guess 0",
            "wearer 0 guess 0; wearer 1 guess foo;", "wearer 0 guess 0; wearer 1 guess 1000;",
            "wearer 0 guess 0; wearer 1 guess 0; wearer 2 guess 0;"};
        for (String text : texts) {
            unchanged("'" + text + "'", x -> {
                x.rules(0);
                Check.told(x, " ".repeat(text.length()) + text);
                Check.told(x, text);
            }, x -> check.yes("a fault in '" + text + "'", Check.told(x, text) != 0));
        }
    }

    private static void question(String what, Question question) {
        unchanged(what, RefusalTest::asIs, x -> check.same(what + " twice", question.ask(x), question.ask(x)));
    }

    /** What only asks changes nothing, either. */
    private static void questions() {
        question("fault", x -> x.fault());
        question("steps", x -> x.steps());
        question("alike", x -> x.alike());
        question("ring", x -> x.ring());
        for (int i = -1; i <= 4; i++) {
            int asked = i;
            question("beaten " + i, x -> x.beaten(asked));
            question("tally " + i, x -> x.tally(asked));
        }
        for (int i = 0; i < 2; i++) {
            int asked = i;
            question("idle " + i, x -> x.idle(asked));
            question("rightOf " + i, x -> x.rightOf(asked));
            question("worst " + i, x -> x.worst(asked));
            question("otherwise " + i, x -> x.otherwise(asked, 1 - asked));
            question("in " + i, x -> x.in(3, asked, 0) * 10 + x.in(3, asked, 1));
        }
    }
}
