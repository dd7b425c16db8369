import java.util.ArrayList;
import java.util.List;
import java.util.Random;

/** Random runs of calls, made both to a HatHall and to the naive Model; each answer must be the same. */
public final class ModelTest {
    private static final int CALLS = 400;

    interface Call {
        long make();
    }

    private static final String[] WORDS = {"wearer", "pass", "guess", "me", "n", "q", "sees", "hears", "seen", "heard",
        "not", "and", "or", "foo", "ne", "m"};

    private final Random random;
    private final HatHall x = new HatHall();
    private final Model y = new Model();
    private final List<String> told = new ArrayList<>();
    private int wrong = 0;
    private final boolean large;

    private ModelTest(long seed, boolean large) {
        random = new Random(seed);
        this.large = large;
    }

    public static void main(String[] args) throws InterruptedException {
        int runs = args.length > 0 ? Integer.parseInt(args[0]) : 150;
        int first = args.length > 1 ? Integer.parseInt(args[1]) : 1;
        int[] wrong = {0};
        // The Model seeks by recursion over rows, which wants a deep stack.
        Thread thread = new Thread(null, () -> {
            for (int run = first; run < first + runs && wrong[0] == 0; run++) {
                wrong[0] += new ModelTest(run, run % 10 == 0).run(run);
            }
        }, "runs", 1L << 29);
        thread.start();
        thread.join();
        System.out.println(runs + " runs, " + (wrong[0] == 0 ? "all answers alike" : "answers differ"));
        if (wrong[0] != 0) {
            System.exit(1);
        }
    }

    private int run(int number) {
        for (int i = 0; i < CALLS && wrong == 0; i++) {
            one();
        }
        if (wrong == 0) {
            whole();
        }
        if (wrong != 0) {
            System.out.println("run " + number + ":");
            for (String line : told) {
                System.out.println("  " + line);
            }
        }
        return wrong;
    }

    private static String answer(Call call) {
        try {
            return Long.toString(call.make());
        } catch (RuntimeException e) {
            return e.getClass().getName();
        }
    }

    private void both(String name, Call ofX, Call ofY) {
        String due = answer(ofY);
        String got = answer(ofX);
        told.add(name + " = " + got);
        if (!due.equals(got)) {
            told.set(told.size() - 1, name + " = " + got + ", due is " + due);
            wrong++;
        }
    }

    private static long bit(boolean b) {
        return b ? 1 : 0;
    }

    private int some(int bound) {
        return random.nextInt(bound);
    }

    /** Mostly 0 to bound - 1, now and then something else. */
    private int near(int bound) {
        int turn = some(40);
        if (turn == 0) {
            return bound;
        }
        if (turn == 1) {
            return -1;
        }
        if (turn == 2) {
            return random.nextInt();
        }
        return some(Math.max(bound, 1));
    }

    private void one() {
        int n = y.count(0);
        int q = y.count(1);
        int rows = y.count(2);
        int w = near(n);
        int turn = some(100);
        if (turn < 3) {
            newHall();
        } else if (turn < 9) {
            int set = some(1 << n) & (some(6) == 0 ? -1 : ~(1 << Math.floorMod(w, 32)));
            both("looks " + w + " " + set, () -> bit(x.looks(w, set)), () -> bit(y.looks(w, set)));
        } else if (turn < 13) {
            int round = some(3) == 0 ? near(8) : some(3);
            both("round " + w + " " + round, () -> bit(x.round(w, round)), () -> bit(y.round(w, round)));
        } else if (turn < 16) {
            int c = near(q);
            int many = some(3) == 0 ? near(10) : 6 + some(4);
            both("heap " + c + " " + many, () -> bit(x.heap(c, many)), () -> bit(y.heap(c, many)));
        } else if (turn < 20) {
            int law = near(4);
            int k = some(4) == 0 ? near(9) : some(n + 1);
            both("law " + law + " " + k, () -> bit(x.law(law, k)), () -> bit(y.law(law, k)));
        } else if (turn < 32) {
            text(randomText());
        } else if (turn < 44) {
            int views = Math.max(1, about(w));
            int view = near(views);
            int guess = near(q + 1);
            both("tell " + w + " " + view + " " + guess, () -> bit(x.tell(w, view, guess)),
                    () -> bit(y.tell(w, view, guess)));
        } else if (turn < 48) {
            int seed = random.nextInt();
            both("draw " + seed, () -> x.draw(seed), () -> y.draw(seed));
        } else if (turn < 51) {
            int slot = near(4);
            both("keep " + slot, () -> bit(x.keep(slot)), () -> bit(y.keep(slot)));
        } else if (turn < 54) {
            int slot = near(4);
            both("take " + slot, () -> bit(x.take(slot)), () -> bit(y.take(slot)));
        } else if (turn < 60) {
            finders(rows);
        } else {
            questions(n, rows, w);
        }
    }

    private int about(int w) {
        return w < 0 || w >= y.count(0) ? 1 : y.about(w, 3);
    }

    private void newHall() {
        int n = some(10) == 0 ? near(9) : 1 + some(large ? 8 : 4);
        int q = some(10) == 0 ? near(5) : 2 + some(3);
        if (!large && Math.pow(q, n) > 100) {
            n = 2;
        }
        int wearers = n;
        both("hall " + wearers + " " + q, () -> bit(x.hall(wearers, q)), () -> bit(y.hall(wearers, q)));
    }

    private void finders(int rows) {
        int turn = some(6);
        if (turn == 0) {
            int limit = some(3) == 0 ? near(5001) : some(100);
            both("search " + limit, () -> x.search(limit), () -> y.search(limit));
            both("steps", x::steps, y::steps);
        } else if (turn == 1 && (rows <= 81 || rows > 256)) {
            both("sums", x::sums, y::sums);
        } else if (turn == 2) {
            both("cover", x::cover, y::cover);
        } else if (turn == 3) {
            both("line", x::line, y::line);
        } else if (rows <= 32 || rows > 256) {
            int most = some(4) == 0 ? near(21) : some(4);
            both("mend " + most, () -> x.mend(most), () -> y.mend(most));
        }
    }

    private void questions(int n, int rows, int w) {
        int row = near(rows);
        int what = near(4);
        int i = some(2) == 0 ? near(4) : near(rows);
        int at = near(n);
        switch (some(large ? 9 : 19)) {
            case 0 -> both("about " + w + " " + i, () -> x.about(w, i), () -> y.about(w, i));
            case 1 -> both("cell " + w + " " + i, () -> x.cell(w, i), () -> y.cell(w, i));
            case 2 -> both("in " + row + " " + w + " " + what, () -> x.in(row, w, what % 3), () -> y.in(row, w, what % 3));
            case 3 -> both("row " + row + " " + what, () -> x.row(row, what), () -> y.row(row, what));
            case 4 -> both("steps", x::steps, y::steps);
            case 5 -> both("constant " + w, () -> x.constant(w), () -> y.constant(w));
            case 6 -> both("given " + i, () -> x.given(i), () -> y.given(i));
            case 7 -> both("ring", x::ring, y::ring);
            case 8 -> bigQuestions(n, rows, w, at);
            case 9 -> both("won " + what, () -> x.won(what), () -> y.won(what));
            case 10 -> both("beaten " + i, () -> x.beaten(i), () -> y.beaten(i));
            case 11 -> both("tally " + what, () -> x.tally(what), () -> y.tally(what));
            case 12 -> both("rightOf " + w, () -> x.rightOf(w), () -> y.rightOf(w));
            case 13 -> both("worst " + what, () -> x.worst(what), () -> y.worst(what));
            case 14 -> both("idle " + w, () -> x.idle(w), () -> y.idle(w));
            case 15 -> both("otherwise " + w + " " + at, () -> x.otherwise(w, at), () -> y.otherwise(w, at));
            case 16 -> both("alike", x::alike, y::alike);
            case 17 -> both("fault", x::fault, y::fault);
            default -> both("count " + i, () -> x.count(i), () -> y.count(i));
        }
    }

    private void bigQuestions(int n, int rows, int w, int at) {
        int what = near(4);
        switch (some(20)) {
            case 0 -> both("won " + what, () -> x.won(what), () -> y.won(what));
            case 1 -> both("beaten " + what, () -> x.beaten(what), () -> y.beaten(what));
            case 2 -> both("worst " + what, () -> x.worst(what), () -> y.worst(what));
            case 3 -> both("idle " + w, () -> x.idle(w), () -> y.idle(w));
            case 4 -> both("otherwise " + w + " " + at, () -> x.otherwise(w, at), () -> y.otherwise(w, at));
            case 5 -> both("rightOf " + w, () -> x.rightOf(w), () -> y.rightOf(w));
            default -> both("alike", x::alike, y::alike);
        }
    }

    /** At a run's end everything that can be asked of the hall. */
    private void whole() {
        int rows = y.count(2);
        for (int i = 0; i < 7; i++) {
            int what = i;
            both("count " + what, () -> x.count(what), () -> y.count(what));
        }
        for (int i = 0; i < y.count(0); i++) {
            int w = i;
            for (int j = 0; j < 5; j++) {
                int what = j;
                both("about " + w + " " + what, () -> x.about(w, what), () -> y.about(w, what));
            }
            for (int v = 0; v < y.about(w, 3); v++) {
                int view = v;
                both("cell " + w + " " + view, () -> x.cell(w, view), () -> y.cell(w, view));
            }
            for (int r = 0; r < rows && rows <= 256; r++) {
                int row = r;
                both("in " + row + " " + w + " 0", () -> x.in(row, w, 0), () -> y.in(row, w, 0));
                both("in " + row + " " + w + " 1", () -> x.in(row, w, 1), () -> y.in(row, w, 1));
            }
        }
    }

    private void text(String text) {
        int start = y.count(5);
        if (start > 0) {
            both("rules 0", () -> x.rules(0), () -> y.rules(0));
        }
        for (int at = 0; at < text.length(); at += 20) {
            int[] f = new int[5];
            for (int i = 0; i < 20; i++) {
                f[i / 4] = f[i / 4] << 8 | (at + i < text.length() ? text.charAt(at + i) : ' ');
            }
            both("feed", () -> x.feed(f[0], f[1], f[2], f[3], f[4]), () -> y.feed(f[0], f[1], f[2], f[3], f[4]));
        }
        int length = some(15) == 0 ? near(text.length() + 20) : text.length();
        both("rules " + length + " of '" + text + "'", () -> x.rules(length), () -> y.rules(length));
        both("fault", x::fault, y::fault);
    }

    private String randomText() {
        StringBuilder text = new StringBuilder();
        int rules = some(12) == 0 ? 15 + some(4) : some(4);
        for (int i = 0; i < rules; i++) {
            int deep = rules > 8 ? 5 : some(5);
            text.append("wearer ").append(wearer()).append(some(3) == 0 ? " pass " + or(deep) : "");
            text.append(" guess ").append(or(deep)).append(some(4) == 0 ? " ;\n" : ";");
        }
        int changes = some(2) == 0 ? 0 : some(3);
        for (int i = 0; i < changes && text.length() > 0; i++) {
            int at = some(text.length());
            switch (some(5)) {
                case 0 -> text.deleteCharAt(at);
                case 1 -> text.insert(at, " ;()+-*/<=0123!A~\t".charAt(some(18)));
                case 2 -> text.insert(at, " " + WORDS[some(WORDS.length)] + " ");
                case 3 -> text.insert(at, ((char) (some(20) == 0 ? some(256) : '0' + some(10))));
                default -> text.insert(at, "((((((not not not not not not ".substring(some(29)));
            }
        }
        if (text.length() > 500) {
            text.setLength(500);
        }
        return text.toString();
    }

    private int wearer() {
        return some(30) == 0 ? some(1100) : some(y.count(0));
    }

    private String or(int deep) {
        return some(5) == 0 ? and(deep) + " or " + and(deep) : and(deep);
    }

    private String and(int deep) {
        return some(5) == 0 ? not(deep) + " and " + not(deep) : not(deep);
    }

    private String not(int deep) {
        if (some(6) == 0) {
            return "not " + not(deep);
        }
        return some(4) == 0 ? sum(deep) + (some(2) == 0 ? " < " : "=") + sum(deep) : sum(deep);
    }

    private String sum(int deep) {
        StringBuilder text = new StringBuilder(product(deep));
        for (int i = some(3); i > 0; i--) {
            text.append(some(2) == 0 ? " + " : "-").append(product(deep));
        }
        return text.toString();
    }

    private String product(int deep) {
        return some(4) == 0 ? part(deep) + (some(2) == 0 ? "*" : " / ") + part(deep) : part(deep);
    }

    private String part(int deep) {
        return switch (some(9)) {
            case 0 -> "me";
            case 1 -> some(2) == 0 ? "n" : "q";
            case 2 -> "sees " + wearer();
            case 3 -> "hears " + wearer();
            case 4 -> "seen";
            case 5 -> "heard";
            case 6, 7 -> deep < 5 || some(20) == 0 ? "(" + or(deep + 1) + ")" : "1";
            default -> Integer.toString(some(25) == 0 ? some(2000) : some(9));
        };
    }
}
