import java.util.ArrayDeque;
import java.util.ArrayList;
import java.util.Arrays;
import java.util.Deque;
import java.util.HashMap;
import java.util.List;
import java.util.Map;
import java.util.NoSuchElementException;

/** A second, naive HatHall, written from the document alone: slow, and free in its Java. */
final class Model {
    static final int NONE = -1;
    private static final Map<Integer, List<Integer>> COVERS = new HashMap<>();

    /** What a slot keeps. */
    private static final class State {
        int n;
        int q;
        int[] looks;
        int[] rounds;
        /** Each wearer's rule: a table (int[]), a text's tokens (String[][]: pass and guess), or null. */
        Object[] rules;

        State copy() {
            State s = new State();
            s.n = n;
            s.q = q;
            s.looks = looks.clone();
            s.rounds = rounds.clone();
            s.rules = new Object[n];
            for (int w = 0; w < n; w++) {
                s.rules[w] = rules[w] instanceof int[] t ? t.clone() : rules[w];
            }
            return s;
        }

        int rows() {
            return (int) Math.round(Math.pow(q, n));
        }

        boolean sees(int w, int other) {
            return (looks[w] >> other & 1) == 1;
        }

        boolean hears(int w, int other) {
            return rounds[other] < rounds[w];
        }

        long views(int w) {
            long views = 1;
            for (int o = 0; o < n; o++) {
                views *= (sees(w, o) ? q : 1) * (hears(w, o) ? q + 1 : 1);
            }
            return views;
        }

        Object tableOfZeros(int w) {
            return views(w) > 1024 ? null : new int[(int) views(w)];
        }

        int[] hats(int row) {
            int[] hats = new int[n];
            for (int w = 0; w < n; w++) {
                hats[w] = (int) (row / Math.round(Math.pow(q, w))) % q;
            }
            return hats;
        }

        int view(int w, int[] hats, int[] guesses) {
            // From the last digit back to the first, as one writes a number of mixed places.
            int view = 0;
            for (int o = n - 1; o >= 0; o--) {
                view = hears(w, o) ? view * (q + 1) + guesses[o] : view;
            }
            for (int o = n - 1; o >= 0; o--) {
                view = sees(w, o) ? view * q + hats[o] : view;
            }
            return view;
        }

        int guess(int w, int[] hats, int[] guesses) {
            if (rules[w] instanceof int[] table) {
                return table[view(w, hats, guesses)];
            }
            if (rules[w] instanceof String[][] text) {
                if (text[0] != null && value(text[0], w, hats, guesses) != 0) {
                    return q;
                }
                return ((value(text[1], w, hats, guesses) % q) + q) % q;
            }
            return 0;
        }

        int[] guesses(int[] hats) {
            int[] guesses = new int[n];
            for (int round = 0; round < 8; round++) {
                for (int w = 0; w < n; w++) {
                    if (rounds[w] == round) {
                        guesses[w] = guess(w, hats, guesses);
                    }
                }
            }
            return guesses;
        }

        /** By two stacks, one of values and one of signs. */
        private int value(String[] tokens, int w, int[] hats, int[] guesses) {
            Deque<Integer> values = new ArrayDeque<>();
            Deque<String> signs = new ArrayDeque<>();
            for (int i = 0; i < tokens.length; i++) {
                String t = tokens[i];
                int sum = 0;
                if (t.equals("(") || t.equals("not")) {
                    signs.push(t);
                } else if (t.equals(")")) {
                    while (!signs.peek().equals("(")) {
                        reduce(values, signs.pop());
                    }
                    signs.pop();
                } else if (Character.isDigit(t.charAt(0))) {
                    values.push(Integer.parseInt(t));
                } else if (t.equals("me")) {
                    values.push(w);
                } else if (t.equals("n")) {
                    values.push(n);
                } else if (t.equals("q")) {
                    values.push(q);
                } else if (t.equals("sees") || t.equals("hears")) {
                    int k = Integer.parseInt(tokens[++i]);
                    values.push(t.equals("sees") ? (sees(w, k) ? hats[k] : 0) : (hears(w, k) ? guesses[k] : 0));
                } else if (t.equals("seen") || t.equals("heard")) {
                    for (int o = 0; o < n; o++) {
                        sum += t.equals("seen") ? (sees(w, o) ? hats[o] : 0) : (hears(w, o) ? guesses[o] : 0);
                    }
                    values.push(sum);
                } else {
                    while (!signs.isEmpty() && !signs.peek().equals("(") && strength(signs.peek()) >= strength(t)) {
                        reduce(values, signs.pop());
                    }
                    signs.push(t);
                }
            }
            while (!signs.isEmpty()) {
                reduce(values, signs.pop());
            }
            return values.pop();
        }

        private static int strength(String sign) {
            return Arrays.asList("or", "and", "not", "<=", "+-", "*/").indexOf(
                    "<=".contains(sign) ? "<=" : "+-".contains(sign) ? "+-" : "*/".contains(sign) ? "*/" : sign);
        }

        private static void reduce(Deque<Integer> values, String sign) {
            int b = values.pop();
            if (sign.equals("not")) {
                values.push(b == 0 ? 1 : 0);
                return;
            }
            int a = values.pop();
            values.push(switch (sign) {
                case "+" -> a + b;
                case "-" -> a - b;
                case "*" -> a * b;
                case "/" -> b == 0 ? 0 : (int) ((long) a / b);
                case "<" -> a < b ? 1 : 0;
                case "=" -> a == b ? 1 : 0;
                case "and" -> a != 0 && b != 0 ? 1 : 0;
                default -> a != 0 || b != 0 ? 1 : 0;
            });
        }
    }

    private State s = new State();
    private final int[] heap = {8, 8, 8, 8};
    private int law = 0;
    private int k = 1;
    private final List<Integer> tape = new ArrayList<>();
    private int fault = NONE;
    private int steps = NONE;
    private int[] constants = {};
    private List<Integer> given = List.of();
    private final State[] slots = new State[4];

    Model() {
        hall(2, 2);
    }

    boolean hall(int n, int q) {
        if (n < 1 || n > 8 || q < 2 || q > 4 || Math.pow(q, n) > 6561) {
            return false;
        }
        s = new State();
        s.n = n;
        s.q = q;
        s.rules = new Object[n];
        lookAtAll();
        return true;
    }

    private void lookAtAll() {
        s.looks = new int[s.n];
        s.rounds = new int[s.n];
        for (int w = 0; w < s.n; w++) {
            s.looks[w] = (1 << s.n) - 1 - (1 << w);
            s.rules[w] = s.tableOfZeros(w);
        }
    }

    private void needWearer(int w) {
        if (w < 0 || w >= s.n) {
            throw new NoSuchElementException();
        }
    }

    private void needWhat(int what, int most) {
        if (what < 0 || what > most) {
            throw new NoSuchElementException();
        }
    }

    private void needRow(int row) {
        if (row < 0 || row >= s.rows()) {
            throw new NoSuchElementException();
        }
    }

    private static boolean isText(Object rule) {
        return rule instanceof String[][];
    }

    boolean looks(int w, int set) {
        needWearer(w);
        for (int bit = 0; bit < 32; bit++) {
            if ((set >> bit & 1) == 1 && (bit >= s.n || bit == w)) {
                return false;
            }
        }
        if (s.looks[w] != set) {
            s.looks[w] = set;
            s.rules[w] = isText(s.rules[w]) ? s.rules[w] : s.tableOfZeros(w);
        }
        return true;
    }

    boolean round(int w, int round) {
        needWearer(w);
        if (round < 0 || round > 7) {
            return false;
        }
        int[] before = new int[s.n];
        for (int o = 0; o < s.n; o++) {
            before[o] = heardBy(o);
        }
        s.rounds[w] = round;
        for (int o = 0; o < s.n; o++) {
            if (before[o] != heardBy(o) && !isText(s.rules[o])) {
                s.rules[o] = s.tableOfZeros(o);
            }
        }
        return true;
    }

    private int heardBy(int w) {
        int set = 0;
        for (int o = 0; o < s.n; o++) {
            set += s.hears(w, o) ? 1 << o : 0;
        }
        return set;
    }

    boolean heap(int colour, int many) {
        if (colour < 0 || colour >= s.q || many < 0 || many > 9) {
            return false;
        }
        heap[colour] = many;
        return true;
    }

    boolean law(int newLaw, int newK) {
        if (newLaw < 0 || newLaw > 3 || newK < 0 || newK > 8) {
            return false;
        }
        law = newLaw;
        k = newK;
        return true;
    }

    int feed(int a, int b, int c, int d, int e) {
        if (tape.size() > 480) {
            return NONE;
        }
        for (int number : new int[] {a, b, c, d, e}) {
            for (byte one : java.nio.ByteBuffer.allocate(4).putInt(number).array()) {
                tape.add(one & 255);
            }
        }
        return tape.size();
    }

    int rules(int n) {
        if (n < 0 || n > tape.size()) {
            throw new IllegalArgumentException();
        }
        StringBuilder text = new StringBuilder();
        tape.subList(0, n).forEach(b -> text.append((char) (int) b));
        tape.clear();
        ModelText read = new ModelText(text.toString(), s.n);
        fault = read.fault == 0 ? NONE : read.place;
        if (read.fault == 0) {
            for (int i = 0; i < read.wearers.size(); i++) {
                s.rules[read.wearers.get(i)] = read.texts.get(i);
            }
        }
        return read.fault;
    }

    int fault() {
        return fault;
    }

    int about(int w, int what) {
        needWearer(w);
        needWhat(what, 4);
        int views = s.views(w) > 1024 ? NONE : (int) s.views(w);
        int kind = isText(s.rules[w]) ? 1 : s.rules[w] == null ? 2 : 0;
        return new int[] {s.looks[w], s.rounds[w], heardBy(w), views, kind}[what];
    }

    boolean tell(int w, int view, int guess) {
        needWearer(w);
        if (s.views(w) > 1024 || view < 0 || view >= s.views(w) || guess < 0 || guess > s.q) {
            return false;
        }
        if (isText(s.rules[w])) {
            s.rules[w] = s.tableOfZeros(w);
        }
        ((int[]) s.rules[w])[view] = guess;
        return true;
    }

    int cell(int w, int view) {
        needWearer(w);
        if (s.rules[w] instanceof int[] table && view >= 0 && view < table.length) {
            return table[view];
        }
        throw new NoSuchElementException();
    }

    int in(int row, int w, int what) {
        needWearer(w);
        needRow(row);
        needWhat(what, 1);
        int[] guesses = s.guesses(s.hats(row));
        if (what == 0 && s.views(w) > 1024) {
            throw new NoSuchElementException();
        }
        return what == 1 ? guesses[w] : s.view(w, s.hats(row), guesses);
    }

    private int right(State t, int row) {
        int[] hats = t.hats(row);
        int[] guesses = t.guesses(hats);
        int set = 0;
        for (int w = 0; w < t.n; w++) {
            set += hats[w] == guesses[w] ? 1 << w : 0;
        }
        return set;
    }

    private int wrong(State t, int row) {
        int[] guesses = t.guesses(t.hats(row));
        int set = (1 << t.n) - 1 - right(t, row);
        for (int w = 0; w < t.n; w++) {
            set -= guesses[w] == t.q ? 1 << w : 0;
        }
        return set;
    }

    private boolean counts(State t, int row) {
        int[] many = new int[4];
        for (int hat : t.hats(row)) {
            many[hat]++;
        }
        for (int c = 0; c < 4; c++) {
            if (many[c] > heap[c]) {
                return false;
            }
        }
        return true;
    }

    private long weight(State t, int row) {
        long weight = 1;
        int[] hats = t.hats(row);
        for (int c = 0; c < t.q; c++) {
            int colour = c;
            int many = (int) Arrays.stream(hats).filter(h -> h == colour).count();
            for (int i = 0; i < many; i++) {
                weight *= heap[c] - i;
            }
        }
        return weight;
    }

    private boolean isWon(State t, int row) {
        int right = Integer.bitCount(right(t, row));
        return switch (law) {
            case 0 -> right >= k;
            case 1 -> right == k;
            case 2 -> wrong(t, row) == 0 && right >= k;
            default -> t.n - right <= k;
        };
    }

    int row(int row, int what) {
        needRow(row);
        needWhat(what, 3);
        return switch (what) {
            case 0 -> right(s, row);
            case 1 -> wrong(s, row);
            case 2 -> counts(s, row) ? 1 : 0;
            default -> isWon(s, row) ? 1 : 0;
        };
    }

    long won(int what) {
        needWhat(what, 3);
        long sum = 0;
        for (int row = 0; row < s.rows(); row++) {
            if (counts(s, row) && (what % 2 == 0 || isWon(s, row))) {
                sum += what < 2 ? 1 : weight(s, row);
            }
        }
        return sum;
    }

    private int wonRows(State t) {
        int many = 0;
        for (int row = 0; row < t.rows(); row++) {
            many += counts(t, row) && isWon(t, row) ? 1 : 0;
        }
        return many;
    }

    int beaten(int i) {
        List<Integer> lost = new ArrayList<>();
        for (int row = 0; row < s.rows(); row++) {
            if (counts(s, row) && !isWon(s, row)) {
                lost.add(row);
            }
        }
        return i < 0 || i >= lost.size() ? NONE : lost.get(i);
    }

    int tally(int many) {
        int sum = 0;
        for (int row = 0; row < s.rows(); row++) {
            sum += counts(s, row) && Integer.bitCount(right(s, row)) == many ? 1 : 0;
        }
        return sum;
    }

    int rightOf(int w) {
        needWearer(w);
        int sum = 0;
        for (int row = 0; row < s.rows(); row++) {
            sum += counts(s, row) ? right(s, row) >> w & 1 : 0;
        }
        return sum;
    }

    int worst(int what) {
        needWhat(what, 1);
        int most = NONE;
        int first = NONE;
        for (int row = 0; row < s.rows(); row++) {
            if (counts(s, row) && Integer.bitCount(wrong(s, row)) > most) {
                most = Integer.bitCount(wrong(s, row));
                first = row;
            }
        }
        return what == 0 ? most : first;
    }

    int idle(int w) {
        needWearer(w);
        int idle = 0;
        for (int o = 0; o < s.n; o++) {
            idle += s.sees(w, o) && isIdle(w, o) ? 1 << o : 0;
        }
        return idle;
    }

    private boolean isIdle(int w, int at) {
        for (int row = 0; row < s.rows(); row++) {
            int[] hats = s.hats(row);
            int[] guesses = s.guesses(hats);
            for (int c = 0; c < s.q; c++) {
                hats[at] = c;
                if (s.guess(w, hats, guesses) != guesses[w]) {
                    return false;
                }
            }
        }
        return true;
    }

    int otherwise(int w, int at) {
        needWearer(w);
        needWearer(at);
        if (w == at) {
            return NONE;
        }
        State t = s.copy();
        t.looks[w] ^= 1 << at;
        t.rules[w] = isText(t.rules[w]) ? t.rules[w] : t.tableOfZeros(w);
        return wonRows(t);
    }

    int alike() {
        return s.n > 6 ? NONE : placings(new ArrayList<>());
    }

    private int placings(List<Integer> places) {
        if (places.size() < s.n) {
            int sum = 0;
            for (int p = 0; p < s.n; p++) {
                if (!places.contains(p)) {
                    List<Integer> more = new ArrayList<>(places);
                    more.add(p);
                    sum += placings(more);
                }
            }
            return sum;
        }
        for (int a = 0; a < s.n; a++) {
            for (int b = 0; b < s.n; b++) {
                if (s.sees(a, b) != s.sees(places.get(a), places.get(b))) {
                    return 0;
                }
            }
            if (s.rounds[a] != s.rounds[places.get(a)]) {
                return 0;
            }
        }
        return 1;
    }

    int ring() {
        int[][] far = new int[s.n][s.n];
        for (int a = 0; a < s.n; a++) {
            for (int b = 0; b < s.n; b++) {
                far[a][b] = s.sees(a, b) ? 1 : 99;
            }
        }
        for (int m = 0; m < s.n; m++) {
            for (int a = 0; a < s.n; a++) {
                for (int b = 0; b < s.n; b++) {
                    far[a][b] = Math.min(far[a][b], far[a][m] + far[m][b]);
                }
            }
        }
        int least = 99;
        for (int a = 0; a < s.n; a++) {
            least = Math.min(least, far[a][a]);
        }
        return least == 99 ? NONE : least;
    }

    private void needPlain() {
        for (int w = 0; w < s.n; w++) {
            if (s.rounds[w] != 0 || s.views(w) > 1024) {
                throw new IllegalArgumentException();
            }
        }
    }

    private static final class Spent extends RuntimeException {
        private static final long serialVersionUID = 1;
    }

    int search(int limit) {
        if (limit < 0 || limit > 5000) {
            throw new IllegalArgumentException();
        }
        needPlain();
        steps = 0;
        int[][] tables = new int[s.n][];
        for (int w = 0; w < s.n; w++) {
            tables[w] = new int[(int) s.views(w)];
            Arrays.fill(tables[w], NONE);
        }
        boolean found;
        try {
            found = settleFrom(0, tables, limit);
        } catch (Spent e) {
            return -2;
        }
        for (int w = 0; w < s.n && found; w++) {
            s.rules[w] = Arrays.stream(tables[w]).map(g -> Math.max(g, 0)).toArray();
        }
        return found ? 1 : 0;
    }

    private boolean settleFrom(int row, int[][] tables, int limit) {
        if (row == s.rows()) {
            return true;
        }
        int[] hats = s.hats(row);
        for (int w = 0; w < s.n; w++) {
            if (tables[w][s.view(w, hats, null)] == hats[w]) {
                return settleFrom(row + 1, tables, limit);
            }
        }
        for (int w = 0; w < s.n; w++) {
            int view = s.view(w, hats, null);
            if (tables[w][view] == NONE) {
                if (steps == limit) {
                    throw new Spent();
                }
                steps++;
                tables[w][view] = hats[w];
                if (settleFrom(row + 1, tables, limit)) {
                    return true;
                }
                tables[w][view] = NONE;
            }
        }
        return false;
    }

    int steps() {
        return steps;
    }

    int sums() {
        needPlain();
        if (s.rows() > 256) {
            throw new IllegalArgumentException();
        }
        int most = -1;
        State best = null;
        State t = s.copy();
        int[] constant = new int[s.n];
        for (int i = 0; i < s.rows(); i++) {
            int rest = i;
            for (int w = s.n - 1; w >= 0; w--) {
                constant[w] = rest % s.q;
                rest /= s.q;
            }
            for (int w = 0; w < s.n; w++) {
                t.rules[w] = sumTable(w, constant[w]);
            }
            int won = wonRows(t);
            if (won > most) {
                most = won;
                best = t.copy();
                constants = constant.clone();
            }
        }
        s = best;
        return most;
    }

    private int[] sumTable(int w, int constant) {
        int[] table = new int[(int) s.views(w)];
        for (int row = 0; row < s.rows(); row++) {
            int[] hats = s.hats(row);
            int sum = 0;
            for (int o = 0; o < s.n; o++) {
                sum += s.sees(w, o) ? hats[o] : 0;
            }
            table[s.view(w, hats, null)] = ((constant - sum) % s.q + s.q) % s.q;
        }
        return table;
    }

    int constant(int w) {
        needWearer(w);
        if (w >= constants.length) {
            throw new NoSuchElementException();
        }
        return constants[w];
    }

    int cover() {
        if (s.q != 2 || s.n > 5) {
            return NONE;
        }
        given = COVERS.computeIfAbsent(s.n, n -> firstCover());
        lookAtAll();
        for (int w = 0; w < s.n; w++) {
            int[] table = (int[]) s.rules[w];
            for (int row = 0; row < s.rows(); row++) {
                int[] hats = s.hats(row);
                boolean zero = given.contains(row - (hats[w] << w));
                boolean one = given.contains(row - (hats[w] << w) + (1 << w));
                table[s.view(w, hats, null)] = zero && one ? 0 : zero ? 1 : one ? 0 : 2;
            }
        }
        return given.size();
    }

    private List<Integer> firstCover() {
        List<Integer> rows = null;
        for (int many = 1; rows == null; many++) {
            rows = firstCover(many, new ArrayList<>());
        }
        return rows;
    }

    /** Every choice of so many rows in turn. */
    private List<Integer> firstCover(int many, List<Integer> rows) {
        if (many == rows.size()) {
            int covered = 0;
            for (int row : rows) {
                covered |= 1 << row;
                for (int w = 0; w < s.n; w++) {
                    covered |= 1 << (row ^ 1 << w);
                }
            }
            return Integer.bitCount(covered) == s.rows() ? new ArrayList<>(rows) : null;
        }
        for (int row = rows.isEmpty() ? 0 : rows.get(rows.size() - 1) + 1; row < s.rows(); row++) {
            rows.add(row);
            List<Integer> found = firstCover(many, rows);
            if (found != null) {
                return found;
            }
            rows.remove(rows.size() - 1);
        }
        return null;
    }

    int given(int i) {
        needWhat(i, given.size() - 1);
        return given.get(i);
    }

    int line() {
        for (int w = 0; w < s.n; w++) {
            s.looks[w] = (1 << s.n) - (2 << w);
            s.rounds[w] = w;
            String text = w == 0 ? "seen" : "hears 0 - seen - ( heard - hears 0 )";
            s.rules[w] = new String[][] {null, text.split(" ")};
        }
        return worst(0);
    }

    int mend(int most) {
        if (most < 0 || most > 20) {
            throw new IllegalArgumentException();
        }
        int views = 0;
        for (int w = 0; w < s.n; w++) {
            views += s.rules[w] instanceof int[] table ? table.length : 0;
        }
        if (views > 256 || s.rows() > 256) {
            return NONE;
        }
        int made = 0;
        while (made < most && mendOne()) {
            made++;
        }
        return made;
    }

    private boolean mendOne() {
        int most = wonRows(s);
        State best = null;
        for (int w = 0; w < s.n; w++) {
            for (int view = 0; s.rules[w] instanceof int[] table && view < table.length; view++) {
                for (int guess = 0; guess <= s.q; guess++) {
                    State t = s.copy();
                    ((int[]) t.rules[w])[view] = guess;
                    if (wonRows(t) > most) {
                        most = wonRows(t);
                        best = t;
                    }
                }
            }
        }
        if (best == null) {
            return false;
        }
        s = best;
        return true;
    }

    int draw(int seed) {
        int many = 0;
        for (int w = 0; w < s.n; w++) {
            for (int view = 0; s.rules[w] instanceof int[] table && view < table.length; view++) {
                seed = (int) (seed * 1103515245L + 12345L);
                table[view] = (seed >> 16 & 0x7fff) % s.q;
                many++;
            }
        }
        return many;
    }

    boolean keep(int slot) {
        if (slot < 0 || slot > 3) {
            return false;
        }
        slots[slot] = s.copy();
        return true;
    }

    boolean take(int slot) {
        if (slot < 0 || slot > 3 || slots[slot] == null) {
            return false;
        }
        s = slots[slot].copy();
        return true;
    }

    int count(int what) {
        needWhat(what, 6);
        int texts = (int) Arrays.stream(s.rules).filter(Model::isText).count();
        return new int[] {s.n, s.q, s.rows(), law, k, tape.size(), texts}[what];
    }
}
