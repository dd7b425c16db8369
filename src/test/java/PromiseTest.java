/** Every promise of the document by ordinary calls, the edges it names, and wrong inputs. */
public final class PromiseTest {
    private static final int NONE = HatHall.NONE;
    private static final Check check = new Check();

    public static void main(String[] args) {
        newObject();
        hall();
        looks();
        round();
        heap();
        law();
        feedAndRules();
        about();
        tellAndCell();
        inARow();
        row();
        won();
        beatenTallyRightOfWorst();
        justOneWay();
        idle();
        otherwise();
        alike();
        ring();
        search();
        sums();
        cover();
        line();
        mend();
        draw();
        slots();
        count();
        check.end();
    }

    private static HatHall hallOf(int n, int q) {
        HatHall x = new HatHall();
        check.yes("hall(" + n + ", " + q + ")", x.hall(n, q));
        return x;
    }

    private static void newObject() {
        HatHall x = new HatHall();
        check.same("1: n", x.count(0), 2);
        check.same("1: q", x.count(1), 2);
        check.same("1: law", x.count(3), 0);
        check.same("1: k", x.count(4), 1);
        check.same("1: tape", x.count(5), 0);
        check.same("1: texts", x.count(6), 0);
        check.same("1: looks", x.about(1, 0), 1);
        check.same("1: fault", x.fault(), NONE);
        check.same("1: steps", x.steps(), NONE);
        check.same("1: heap", x.won(2), 16 * 15);
        check.no("1: slots", x.take(0));
        check.same("NONE", NONE, -1);
    }

    private static void hall() {
        HatHall x = new HatHall();
        int[][] good = {{1, 2, 2}, {8, 2, 256}, {8, 3, 6561}, {6, 4, 4096}, {1, 4, 4}, {7, 3, 2187}};
        for (int[] g : good) {
            check.yes("2: hall " + g[0] + ", " + g[1], x.hall(g[0], g[1]));
            check.same("2: rows", x.count(2), g[2]);
        }
        int[][] bad = {{0, 2}, {9, 2}, {2, 1}, {2, 5}, {7, 4}, {8, 4}, {-1, 3}, {Integer.MAX_VALUE, 2},
                {2, Integer.MIN_VALUE}};
        x.hall(3, 3);
        x.tell(1, 2, 2);
        for (int[] b : bad) {
            check.no("2: hall " + b[0] + ", " + b[1], x.hall(b[0], b[1]));
        }
        check.same("2: nothing changed", x.cell(1, 2), 2);
        x.looks(0, 2);
        x.round(2, 3);
        x.heap(0, 4);
        x.law(2, 2);
        Check.told(x, "wearer 0 guess 1;");
        check.yes("2: the same again", x.hall(3, 3));
        check.same("2: looks", x.about(0, 0), 6);
        check.same("2: round", x.about(2, 1), 0);
        check.same("2: hears", x.about(2, 2), 0);
        check.same("2: rule", x.about(0, 4), 0);
        check.same("2: table", x.cell(1, 2), 0);
        check.same("2: the law stays", x.count(3), 2);
        check.same("2: the heap stays", x.won(2), 20 * 19 * 18);
    }

    private static void looks() {
        HatHall x = hallOf(3, 2);
        x.tell(0, 3, 1);
        x.tell(1, 3, 1);
        check.yes("3: the same", x.looks(0, 6));
        check.same("3: its table stays", x.cell(0, 3), 1);
        check.yes("3: fewer", x.looks(0, 4));
        check.same("3: views", x.about(0, 3), 2);
        check.missing("3: view 3", () -> x.cell(0, 3));
        check.yes("3: all again", x.looks(0, 6));
        check.same("3: a table of 0", x.cell(0, 3), 0);
        check.same("3: others' tables stay", x.cell(1, 3), 1);
        check.yes("3: none", x.looks(0, 0));
        check.same("3: one view", x.about(0, 3), 1);
        check.no("3: itself", x.looks(0, 1));
        check.no("3: nobody", x.looks(0, 8));
        check.no("3: below 0", x.looks(0, -1));
        check.no("3: the highest bit", x.looks(0, Integer.MIN_VALUE));
        check.same("3: nothing changed", x.about(0, 0), 0);
        check.missing("3: no wearer", () -> x.looks(3, 0));
        check.missing("3: no wearer below", () -> x.looks(-1, 8));
        Check.told(x, "wearer 2 guess seen;");
        x.looks(2, 1);
        check.same("3: a text's rule stays", x.about(2, 4), 1);
        check.same("3: and goes by that", x.in(3, 2, 1), 1);
    }

    private static void round() {
        HatHall x = hallOf(3, 2);
        for (int w = 0; w < 3; w++) {
            x.tell(w, 1, 1);
        }
        check.yes("4: the same", x.round(1, 0));
        check.same("4: tables stay", x.cell(1, 1), 1);
        check.yes("4: later", x.round(1, 2));
        check.same("4: hears", x.about(1, 2), 5);
        check.same("4: its table is of 0", x.cell(1, 1), 0);
        check.same("4: who hears the same stays", x.cell(0, 1), 1);
        check.same("4: views", x.about(1, 3), 4 * 9);
        x.tell(1, 35, 2);
        check.yes("4: later still", x.round(1, 7));
        check.same("4: it hears the same", x.cell(1, 35), 2);
        check.yes("4: another", x.round(2, 3));
        check.same("4: 2 hears 0", x.about(2, 2), 1);
        check.same("4: 1 still hears both", x.cell(1, 35), 2);
        check.same("4: 2 hears another", x.cell(2, 1), 0);
        check.yes("4: back", x.round(1, 0));
        check.same("4: 2 hears 1, too", x.about(2, 2), 3);
        check.same("4: round", x.about(2, 1), 3);
        check.no("4: 8", x.round(0, 8));
        check.no("4: -1", x.round(0, -1));
        check.missing("4: no wearer", () -> x.round(3, 0));
        check.missing("4: no wearer below", () -> x.round(-1, 9));
    }

    private static void heap() {
        HatHall x = hallOf(2, 3);
        check.yes("5: 0", x.heap(2, 0));
        check.yes("5: 9", x.heap(0, 9));
        check.yes("5: 1", x.heap(1, 1));
        check.same("5: rows that count", x.won(0), 3);
        check.same("5: weights", x.won(2), 9 * 8 + 9 + 9);
        check.no("5: 10", x.heap(0, 10));
        check.no("5: -1", x.heap(0, -1));
        check.no("5: no colour", x.heap(3, 1));
        check.no("5: no colour below", x.heap(-1, 1));
        check.same("5: nothing changed", x.won(2), 90);
    }

    private static void law() {
        HatHall x = hallOf(3, 2);
        x.tell(2, 0, 2);
        x.tell(2, 1, 2);
        x.tell(2, 2, 2);
        x.tell(2, 3, 2);
        int[][] due = {{0, 0, 8}, {0, 1, 6}, {0, 2, 2}, {0, 3, 0}, {1, 0, 2}, {1, 1, 4}, {1, 2, 2}, {1, 8, 0},
                {2, 0, 2}, {2, 2, 2}, {2, 3, 0}, {3, 0, 0}, {3, 1, 2}, {3, 2, 6}, {3, 8, 8}};
        for (int[] d : due) {
            check.yes("6: law", x.law(d[0], d[1]));
            check.same("6: won by law " + d[0] + " with " + d[1], x.won(1), d[2]);
        }
        check.no("6: law 4", x.law(4, 0));
        check.no("6: law -1", x.law(-1, 0));
        check.no("6: k 9", x.law(0, 9));
        check.no("6: k -1", x.law(0, -1));
        check.same("6: the law stays", x.count(3), 3);
        check.same("6: k stays", x.count(4), 8);
    }

    private static void feedAndRules() {
        HatHall x = new HatHall();
        for (int i = 1; i <= 25; i++) {
            check.same("7: feed", x.feed(538976288, 538976288, 538976288, 538976288, 538976288), 20 * i);
        }
        check.same("7: too many", x.feed(0, 0, 0, 0, 0), NONE);
        check.same("7: none came", x.count(5), 500);
        check.refused("8: 501", () -> x.rules(501));
        check.refused("8: -1", () -> x.rules(-1));
        check.same("8: nothing changes", x.count(5), 500);
        check.same("8: blanks", x.rules(500), 0);
        check.same("8: the tape is empty", x.count(5), 0);
        check.same("8: nothing", x.rules(0), 0);
        check.refused("8: 1 of none", () -> x.rules(1));
        check.same("8: a fault", Check.told(x, "wearer 0 guess 1; wearer 1 guess ;"), 1);
        check.same("9: its place", x.fault(), 33);
        check.same("8: all rules stay", x.count(6), 0);
        check.refused("8: again", () -> x.rules(1));
        check.same("9: it stays then", x.fault(), 33);
        check.same("7: highest first", x.feed(0x77656172, 0x65722031, 0x67756573, 0x73313b80, -1), 20);
        check.same("8: only the first bytes", x.rules(15), 0);
        check.same("9: no fault", x.fault(), NONE);
        check.same("8: wearer 1", x.about(1, 4), 1);
        check.same("8: wearer 0", x.about(0, 4), 0);
        x.feed(0x77656172, 0x65722031, 0x67756573, 0x73313b80, -1);
        check.same("8: a byte above 127", x.rules(16), 1);
        check.same("9: place", x.fault(), 15);
    }

    private static void about() {
        HatHall x = hallOf(7, 3);
        check.same("10: looks", x.about(6, 0), 63);
        check.same("10: views", x.about(6, 3), 729);
        check.same("10: a table", x.about(6, 4), 0);
        x.round(6, 1);
        check.same("10: round", x.about(6, 1), 1);
        check.same("10: hears", x.about(6, 2), 63);
        check.same("10: too many views", x.about(6, 3), NONE);
        check.same("10: none", x.about(6, 4), 2);
        Check.told(x, "wearer 6 guess 2;");
        check.same("10: a text's", x.about(6, 4), 1);
        check.missing("10: what 5", () -> x.about(0, 5));
        check.missing("10: what -1", () -> x.about(0, -1));
        check.missing("10: wearer 7", () -> x.about(7, 0));
        check.missing("10: wearer -1", () -> x.about(-1, 0));
        x.hall(6, 4);
        check.same("10: just 1024", x.about(0, 3), 1024);
        check.same("10: has a table", x.about(0, 4), 0);
    }

    private static void tellAndCell() {
        HatHall x = hallOf(3, 3);
        check.yes("11: tell", x.tell(1, 8, 2));
        check.same("12: cell", x.cell(1, 8), 2);
        check.yes("11: pass", x.tell(1, 8, 3));
        check.same("12: pass", x.cell(1, 8), 3);
        check.no("11: guess 4", x.tell(1, 8, 4));
        check.no("11: guess -1", x.tell(1, 8, -1));
        check.no("11: view 9", x.tell(1, 9, 0));
        check.no("11: view -1", x.tell(1, -1, 0));
        check.missing("11: wearer 3", () -> x.tell(3, 0, 0));
        check.missing("12: wearer 3", () -> x.cell(3, 0));
        check.missing("12: view 9", () -> x.cell(1, 9));
        check.missing("12: view -1", () -> x.cell(1, -1));
        Check.told(x, "wearer 1 guess 1;");
        check.missing("12: a text's rule", () -> x.cell(1, 8));
        check.no("11: no such view", x.tell(1, 9, 0));
        check.same("11: the text's rule stays", x.about(1, 4), 1);
        check.yes("11: a table instead", x.tell(1, 0, 1));
        check.same("12: told", x.cell(1, 0), 1);
        check.same("12: all others 0", x.cell(1, 8), 0);
        x.hall(8, 3);
        check.no("11: no table can be", x.tell(0, 0, 0));
        check.missing("12: no table", () -> x.cell(0, 0));
    }

    private static void inARow() {
        HatHall x = hallOf(3, 3);
        x.round(2, 1);
        x.tell(0, 7, 3);
        x.tell(1, 7, 2);
        // Row 23 has the hats 2, 1, 2: wearer 0 sees 1 + 2 * 3, wearer 1 sees 2 + 2 * 3.
        check.same("13: view of 0", x.in(23, 0, 0), 7);
        check.same("13: guess of 0", x.in(23, 0, 1), 3);
        check.same("13: view of 1", x.in(23, 1, 0), 8);
        check.same("13: guess of 1", x.in(23, 1, 1), 0);
        check.same("13: hats, then guesses", x.in(23, 2, 0), 2 + 1 * 3 + 3 * 9 + 0 * 36);
        check.missing("13: row 27", () -> x.in(27, 0, 0));
        check.missing("13: row -1", () -> x.in(-1, 0, 0));
        check.missing("13: wearer 3", () -> x.in(0, 3, 0));
        check.missing("13: what 2", () -> x.in(0, 0, 2));
        check.missing("13: what -1", () -> x.in(0, 0, -1));
        x.hall(8, 3);
        check.missing("13: too many views", () -> x.in(0, 0, 0));
        check.same("13: its guess is 0", x.in(6560, 0, 1), 0);
    }

    private static void row() {
        HatHall x = hallOf(2, 3);
        x.tell(1, 2, 3);
        x.heap(2, 1);
        // Row 8 has the hats 2, 2: wearer 0 guesses 0, wearer 1 passes.
        check.same("14: right", x.row(8, 0), 0);
        check.same("14: wrong", x.row(8, 1), 1);
        check.same("14: counts", x.row(8, 2), 0);
        check.same("14: won", x.row(8, 3), 0);
        check.same("14: right in row 3", x.row(3, 0), 1);
        check.same("14: wrong in row 3", x.row(3, 1), 2);
        check.same("14: row 3 counts", x.row(3, 2), 1);
        check.same("14: row 3 is won", x.row(3, 3), 1);
        x.law(0, 0);
        check.same("14: won, but doesn't count", x.row(8, 3), 1);
        check.missing("14: row 9", () -> x.row(9, 0));
        check.missing("14: row -1", () -> x.row(-1, 0));
        check.missing("14: what 4", () -> x.row(0, 4));
        check.missing("14: what -1", () -> x.row(0, -1));
    }

    private static void won() {
        HatHall x = hallOf(2, 2);
        x.heap(0, 1);
        x.heap(1, 2);
        // Rows 1, 2, 3 count; by tables of 0 row 3 is lost.
        check.same("15: rows", x.won(0), 3);
        check.same("15: won", x.won(1), 2);
        check.same("15: weights", x.won(2), 2 + 2 + 2);
        check.same("15: weights of won ones", x.won(3), 4);
        check.missing("15: 4", () -> x.won(4));
        check.missing("15: -1", () -> x.won(-1));
        x.hall(8, 2);
        x.heap(0, 9);
        x.heap(1, 9);
        long sum = 1;
        for (int i = 0; i < 8; i++) {
            sum *= 18 - i;
        }
        check.same("15: all ways to lie, a long", x.won(2), sum);
        x.heap(0, 0);
        x.heap(1, 0);
        check.same("15: nothing counts", x.won(0) + x.won(1) + x.won(2) + x.won(3), 0);
    }

    private static void beatenTallyRightOfWorst() {
        HatHall x = hallOf(3, 2);
        x.law(0, 2);
        // Tables of 0: lost are rows with two hats of 1 and more.
        int[] lost = {3, 5, 6, 7, NONE};
        for (int i = 0; i < lost.length; i++) {
            check.same("16: beaten " + i, x.beaten(i), lost[i]);
        }
        check.same("16: -1", x.beaten(-1), NONE);
        check.same("16: far", x.beaten(Integer.MAX_VALUE), NONE);
        int[] right = {1, 3, 3, 1, 0};
        for (int k = 0; k < right.length; k++) {
            check.same("17: tally " + k, x.tally(k), right[k]);
        }
        check.same("17: -1", x.tally(-1), 0);
        check.same("18: right", x.rightOf(1), 4);
        check.missing("18: wearer 3", () -> x.rightOf(3));
        check.missing("18: wearer -1", () -> x.rightOf(-1));
        check.same("19: most wrong", x.worst(0), 3);
        check.same("19: first such", x.worst(1), 7);
        x.heap(1, 2);
        check.same("16: row 7 counts no more", x.beaten(3), NONE);
        check.same("17: of those that count", x.tally(0), 0);
        check.same("18: of those that count", x.rightOf(1), 4);
        check.same("19: of those that count", x.worst(0), 2);
        check.same("19: the first of like ones", x.worst(1), 3);
        x.tell(0, 1, 2);
        check.same("19: who passes isn't wrong", x.worst(1), 5);
        x.heap(0, 0);
        check.same("16: none counts", x.beaten(0), NONE);
        check.same("19: none counts", x.worst(0), NONE);
        check.same("19: no row", x.worst(1), NONE);
        check.missing("19: 2", () -> x.worst(2));
        check.missing("19: -1", () -> x.worst(-1));
    }

    /** A row whose hats can lie in just one way counts like any other. */
    private static void justOneWay() {
        HatHall x = hallOf(2, 2);
        x.heap(0, 1);
        x.heap(1, 1);
        check.same("14: row 0", x.row(0, 2), 0);
        check.same("14: row 1", x.row(1, 2), 1);
        check.same("15: rows", x.won(0), 2);
        check.same("15: weights", x.won(2), 2);
        check.same("21: one look less", x.otherwise(0, 1), 2);
        x.law(0, 2);
        check.same("21: both right nowhere", x.otherwise(0, 1), 0);
        check.same("26: sums", x.sums(), 2);
        check.same("27: constants", x.constant(0) * 2 + x.constant(1), 3);
        x.hall(2, 2);
        check.same("31: two changes", x.mend(20), 2);
        check.same("31: view 0 of both", x.cell(0, 0) + x.cell(1, 0), 2);
        check.same("31: both rows are won", x.won(1), 2);
        x.tell(1, 0, 0);
        check.same("31: mended back", x.mend(20), 1);
        check.same("31: view 0 of wearer 1", x.cell(1, 0), 1);
    }

    private static void idle() {
        HatHall x = hallOf(3, 2);
        check.same("20: tables of 0", x.idle(0), 6);
        x.tell(0, 1, 1);
        x.tell(0, 3, 1);
        check.same("20: only wearer 1 matters", x.idle(0), 4);
        x.tell(0, 3, 0);
        check.same("20: both matter", x.idle(0), 0);
        Check.told(x, "wearer 1 guess sees 2 * 2 + sees 0;");
        check.same("20: a text", x.idle(1), 4);
        x.looks(1, 4);
        check.same("20: only looks", x.idle(1), 4);
        check.missing("20: wearer 3", () -> x.idle(3));
        check.missing("20: wearer -1", () -> x.idle(-1));
        // Wearer 1 says 1 in every row, so what wearer 0 would do at 0 never shows.
        x.hall(2, 2);
        x.round(0, 1);
        x.tell(1, 0, 1);
        x.tell(1, 1, 1);
        x.tell(0, 1, 1);
        check.same("20: as it hears in rows", x.idle(0), 2);
        x.tell(0, 3, 1);
        check.same("20: now it matters", x.idle(0), 0);
        // Rows that don't count matter, too.
        x.heap(0, 0);
        x.heap(1, 0);
        check.same("20: in any row", x.idle(0), 0);
    }

    private static void otherwise() {
        HatHall x = hallOf(2, 2);
        Check.told(x, "wearer 0 guess seen; wearer 1 guess 1 - sees 0;");
        check.same("21: all won", x.won(1), 4);
        check.same("21: 0 without its look", x.otherwise(0, 1), 3);
        check.same("21: 1 without its look", x.otherwise(1, 0), 3);
        check.same("21: nothing stays of it", x.won(1), 4);
        x.looks(0, 0);
        check.same("21: a look more", x.otherwise(0, 1), 4);
        check.same("21: both are one", x.otherwise(1, 1), NONE);
        check.missing("21: wearer 2", () -> x.otherwise(2, 0));
        check.missing("21: at 2", () -> x.otherwise(0, 2));
        check.missing("21: both 2", () -> x.otherwise(2, 2));
        check.missing("21: -1", () -> x.otherwise(-1, -1));
        x.tell(0, 0, 1);
        x.tell(1, 0, 1);
        check.same("21: a table is of 0 then", x.otherwise(0, 1), 3);
        check.same("21: its table stays", x.cell(0, 0), 1);
        x.heap(1, 1);
        check.same("21: rows that count", x.otherwise(0, 1), 3);
    }

    private static void alike() {
        HatHall x = hallOf(6, 2);
        check.same("22: all alike", x.alike(), 720);
        for (int w = 0; w < 6; w++) {
            x.looks(w, 1 << (w + 1) % 6);
        }
        check.same("22: a ring", x.alike(), 6);
        x.round(0, 1);
        check.same("22: rounds", x.alike(), 1);
        for (int w = 0; w < 6; w++) {
            x.looks(w, 0);
        }
        check.same("22: all but one", x.alike(), 120);
        x.hall(7, 2);
        check.same("22: 7", x.alike(), NONE);
        x.hall(1, 2);
        check.same("22: 1", x.alike(), 1);
    }

    private static void ring() {
        HatHall x = hallOf(8, 2);
        check.same("23: two", x.ring(), 2);
        for (int w = 0; w < 8; w++) {
            x.looks(w, 1 << (w + 1) % 8);
        }
        check.same("23: eight", x.ring(), 8);
        x.looks(5, 1 << 6 | 1 << 1);
        check.same("23: five", x.ring(), 5);
        x.looks(5, 0);
        check.same("23: none", x.ring(), NONE);
        x.hall(1, 4);
        check.same("23: one wearer", x.ring(), NONE);
    }

    private static void search() {
        HatHall x = hallOf(1, 2);
        check.same("24: one wearer", x.search(5000), 0);
        check.same("25: one step", x.steps(), 1);
        check.same("24: no steps", x.search(0), -2);
        check.same("25: none made", x.steps(), 0);
        check.refused("24: 5001", () -> x.search(5001));
        check.refused("24: -1", () -> x.search(-1));
        check.same("25: that was none", x.steps(), 0);
        x.hall(2, 2);
        Check.told(x, "wearer 0 guess 1; wearer 1 guess 1;");
        check.same("24: spent", x.search(4), -2);
        check.same("24: rules stay", x.count(6), 2);
        check.same("24: found", x.search(5), 1);
        check.same("25: five", x.steps(), 5);
        check.same("24: tables", x.count(6), 0);
        check.same("24: every row", x.won(1), 4);
        x.heap(0, 0);
        x.heap(1, 0);
        check.same("24: not of those that count alone", x.search(4), -2);
        x.round(0, 3);
        x.round(1, 3);
        check.refused("24: rounds that are not 0", () -> x.search(5));
        x.hall(8, 3);
        check.refused("24: too many views", () -> x.search(5));
        x.hall(3, 3);
        int found = x.search(5000);
        check.yes("24: three colours", found == 1 || found == -2);
        x.hall(2, 3);
        Check.told(x, "wearer 0 guess 1;");
        check.same("24: two wearers, three colours", x.search(5000), 0);
        check.same("24: the text's rule stays", x.about(0, 4), 1);
        // With nobody looking at wearer 1, guesses that never come up stay 0.
        x.hall(3, 2);
        x.looks(2, 0);
        check.same("24: two see each other", x.search(100), 1);
        x.heap(0, 8);
        x.heap(1, 8);
        check.same("24: all rows won", x.won(1), 8);
    }

    private static void sums() {
        HatHall x = hallOf(2, 2);
        check.missing("27: none yet", () -> x.constant(0));
        check.same("26: two", x.sums(), 4);
        check.same("27: 0", x.constant(0), 0);
        check.same("27: 1", x.constant(1), 1);
        check.same("26: table of 0", x.cell(0, 1), 1);
        check.same("26: table of 1", x.cell(1, 0) * 2 + x.cell(1, 1), 2);
        x.law(0, 2);
        check.same("26: another law", x.sums(), 2);
        check.same("27: the first of like ones", x.constant(1), 0);
        x.law(1, 0);
        Check.told(x, "wearer 0 guess 1;");
        check.same("26: nobody right", x.sums(), 2);
        check.same("26: tables", x.count(6), 0);
        x.heap(0, 0);
        x.heap(1, 0);
        check.same("26: none counts", x.sums(), 0);
        x.heap(0, 8);
        x.heap(1, 8);
        x.hall(3, 2);
        check.missing("27: came of fewer", () -> x.constant(2));
        check.same("27: of the latest", x.constant(1), 0);
        check.missing("27: wearer 3", () -> x.constant(3));
        check.missing("27: wearer -1", () -> x.constant(-1));
        x.law(0, 1);
        x.sums();
        x.hall(2, 2);
        check.missing("27: no such wearer now", () -> x.constant(2));
        x.round(0, 1);
        check.refused("26: a round", () -> x.sums());
        x.hall(5, 4);
        check.refused("26: 1024 rows", () -> x.sums());
        x.hall(6, 3);
        check.refused("26: 729 rows", () -> x.sums());
        x.hall(4, 4);
        check.same("26: four, each another", x.sums(), 256);
        check.same("27: 3", x.constant(3), 3);
        x.hall(8, 2);
        x.law(0, 4);
        check.same("26: half of eight", x.sums(), 256);
        check.same("27: the first half", x.constant(3) * 2 + x.constant(4), 1);
        x.law(0, 8);
        check.same("26: all of eight", x.sums(), 128);
        x.law(0, 1);
        // Two who see nobody, and a third who sees one of them.
        x.hall(3, 2);
        x.looks(0, 0);
        x.looks(1, 0);
        x.looks(2, 1);
        check.same("26: fewer looks", x.sums(), 7);
        check.same("27: by wearers", x.constant(0) * 4 + x.constant(1) * 2 + x.constant(2), 0);
        check.same("26: view 1", x.cell(2, 1), 1);
    }

    private static void cover() {
        HatHall x = hallOf(1, 2);
        check.missing("29: none yet", () -> x.given(0));
        int[][] due = {{0}, {0, 1}, {0, 7}, {0, 1, 14, 15}, {0, 1, 2, 15, 23, 27, 28}};
        x.law(2, 1);
        for (int n = 5; n >= 1; n--) {
            x.hall(n, 2);
            x.looks(0, 0);
            x.round(0, 5);
            int[] rows = due[n - 1];
            check.same("28: cover of " + n, x.cover(), rows.length);
            for (int i = 0; i < rows.length; i++) {
                check.same("29: given " + i + " of " + n, x.given(i), rows[i]);
            }
            check.missing("29: too far", () -> x.given(rows.length));
            check.same("28: looks", x.about(0, 0), (1 << n) - 2);
            check.same("28: rounds", x.about(0, 1), 0);
            for (int i = 0; i < rows.length; i++) {
                check.same("28: lost are those given up", x.beaten(i), rows[i]);
            }
            check.same("28: and no others", x.beaten(rows.length), NONE);
        }
        check.missing("29: -1", () -> x.given(-1));
        x.hall(2, 2);
        x.cover();
        check.same("28: both are given up", x.cell(0, 0), 0);
        check.same("28: none is", x.cell(0, 1), 2);
        check.same("28: one is", x.cell(1, 0), 1);
        x.hall(6, 2);
        check.same("28: six", x.cover(), NONE);
        x.hall(2, 3);
        x.tell(0, 1, 2);
        check.same("28: three colours", x.cover(), NONE);
        check.same("28: nothing changes", x.cell(0, 1), 2);
        check.same("29: the latest cover", x.given(1), 1);
    }

    private static void line() {
        int[][] halls = {{1, 2}, {2, 4}, {3, 3}, {8, 2}, {7, 3}, {6, 4}, {8, 3}};
        for (int[] h : halls) {
            HatHall x = hallOf(h[0], h[1]);
            check.same("30: one is wrong at worst", x.line(), 1);
            x.law(0, h[0] - 1);
            check.same("30: all others are right", x.won(1), x.won(0));
            for (int w = 1; w < h[0]; w++) {
                check.same("30: wearer " + w, x.rightOf(w), x.count(2));
            }
            check.same("30: texts", x.count(6), h[0]);
            check.same("30: the last one looks at none", x.about(h[0] - 1, 0), 0);
            check.same("30: it hears all others", x.about(h[0] - 1, 2), (1 << h[0] - 1) - 1);
            check.same("30: its round", x.about(h[0] - 1, 1), h[0] - 1);
        }
        HatHall x = hallOf(3, 2);
        x.heap(0, 0);
        x.heap(1, 0);
        check.same("30: none counts", x.line(), NONE);
        check.same("30: rules all the same", x.count(6), 3);
        // Told otherwise, it goes by the text: wearer 2 hears only wearer 1 then.
        x.round(0, 2);
        check.same("30: hears", x.about(2, 2), 2);
        check.same("30: what wearer 0 guessed is 0 then", x.in(4, 1, 1), 1);
        check.same("30: less what it hears of wearer 1", x.in(4, 2, 1), 1);
    }

    private static void mend() {
        HatHall x = hallOf(2, 2);
        check.refused("31: 21", () -> x.mend(21));
        check.refused("31: -1", () -> x.mend(-1));
        x.tell(0, 1, 1);
        check.same("31: none at most", x.mend(0), 0);
        check.same("31: one is enough", x.mend(20), 1);
        check.same("31: wearer 1, view 0", x.cell(1, 0), 1);
        check.same("31: all won", x.won(1), 4);
        x.hall(3, 2);
        x.law(2, 1);
        check.same("31: passes are guesses, too", x.mend(1), 1);
        check.same("31: the least wearer, view", x.cell(0, 0), 2);
        x.hall(4, 4);
        check.same("31: 256 views and rows", x.mend(0), 0);
        x.looks(0, 0);
        x.round(0, 1);
        check.same("31: more views", x.mend(0), NONE);
        Check.told(x, "wearer 0 guess 0;");
        check.same("31: views in tables alone", x.mend(0), 0);
        x.hall(5, 4);
        for (int w = 0; w < 5; w++) {
            x.looks(w, 0);
        }
        check.same("31: more rows", x.mend(0), NONE);
        check.refused("31: first of all", () -> x.mend(21));
        // Wearer 1 goes by what it hears of wearer 0, whose guess at view 0 makes both right.
        x.hall(2, 2);
        x.law(0, 2);
        x.looks(1, 0);
        x.round(1, 1);
        x.tell(1, 0, 1);
        x.tell(1, 1, 0);
        check.same("31: before", x.won(1), 1);
        check.same("31: heard", x.mend(1), 1);
        check.same("31: after", x.won(1), 2);
        check.same("31: which", x.cell(0, 0), 1);
        x.heap(0, 0);
        x.heap(1, 0);
        check.same("31: none counts", x.mend(5), 0);
    }

    private static void draw() {
        HatHall x = hallOf(2, 3);
        check.same("32: all", x.draw(1), 6);
        int seed = 1;
        for (int i = 0; i < 6; i++) {
            seed = seed * 1103515245 + 12345;
            check.same("32: guess " + i, x.cell(i / 3, i % 3), (seed >>> 16 & 0x7fff) % 3);
        }
        Check.told(x, "wearer 0 guess 1;");
        check.same("32: tables alone", x.draw(Integer.MIN_VALUE), 3);
        check.same("32: the text's rule stays", x.about(0, 4), 1);
        seed = Integer.MIN_VALUE * 1103515245 + 12345;
        check.same("32: the seed starts there", x.cell(1, 0), (seed >>> 16 & 0x7fff) % 3);
        x.hall(8, 3);
        check.same("32: no tables", x.draw(7), 0);
    }

    private static void slots() {
        HatHall x = hallOf(3, 2);
        for (int slot = 0; slot < 4; slot++) {
            check.no("34: nothing is kept", x.take(slot));
        }
        x.looks(0, 4);
        x.tell(0, 1, 1);
        x.round(2, 4);
        x.tell(2, 20, 2);
        Check.told(x, "wearer 1 guess n;");
        check.yes("33: keep", x.keep(3));
        x.tell(0, 1, 0);
        x.tell(1, 0, 0);
        x.law(1, 2);
        x.heap(1, 1);
        x.hall(2, 4);
        check.yes("33: another", x.keep(0));
        check.yes("34: take", x.take(3));
        check.same("34: n", x.count(0), 3);
        check.same("34: q", x.count(1), 2);
        check.same("34: rows", x.count(2), 8);
        check.same("34: looks", x.about(0, 0), 4);
        check.same("34: round", x.about(2, 1), 4);
        check.same("34: hears", x.about(2, 2), 3);
        check.same("34: views", x.about(2, 3), 36);
        check.same("34: table of 0", x.cell(0, 1), 1);
        check.same("34: table of 2", x.cell(2, 20), 2);
        check.same("34: text of 1", x.in(0, 1, 1), 1);
        check.same("34: the law stays", x.count(4), 2);
        check.same("34: the heap stays", x.won(0), 4);
        x.tell(0, 1, 2);
        check.yes("34: take again", x.take(3));
        check.same("34: it keeps what it kept", x.cell(0, 1), 1);
        check.yes("34: the other", x.take(0));
        check.same("34: its rows", x.count(2), 16);
        check.no("33: slot 4", x.keep(4));
        check.no("33: slot -1", x.keep(-1));
        check.no("34: slot 4", x.take(4));
        check.no("34: slot -1", x.take(-1));
        check.no("34: slot 1", x.take(1));
    }

    private static void count() {
        HatHall x = hallOf(5, 3);
        x.law(3, 7);
        x.feed(0, 0, 0, 0, 0);
        int[] due = {5, 3, 243, 3, 7, 20, 0};
        for (int what = 0; what < due.length; what++) {
            check.same("35: count " + what, x.count(what), due[what]);
        }
        x.rules(0);
        check.same("35: the tape is empty", x.count(5), 0);
        Check.told(x, "wearer 4 guess 1; wearer 2 guess 1; wearer 4 guess 2;");
        check.same("35: texts", x.count(6), 2);
        x.tell(4, 0, 0);
        check.same("35: a table told", x.count(6), 1);
        check.missing("35: 7", () -> x.count(7));
        check.missing("35: -1", () -> x.count(-1));
    }
}
