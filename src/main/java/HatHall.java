import java.util.Arrays;
import java.util.NoSuchElementException;

/** Wearers who guess their own hats by what they see and hear. ../shared/DOC.md tells every promise. */
public final class HatHall {
    public static final int NONE = -1;

    private static final int MOST_WEARERS = 8;
    private static final int MOST_COLOURS = 4;
    private static final int MOST_ROUND = 7;
    private static final int MOST_ROWS = 6561;
    private static final int MOST_VIEWS = 1024;
    private static final int MOST_BYTES = 500;
    private static final int MOST_HATS = 9;
    private static final int MOST_STEPS = 5000;
    private static final int MOST_MENDED = 20;
    private static final int SMALL = 256;
    private static final int COVERED_WEARERS = 5;
    private static final int SLOTS = 4;

    private final Net net = new Net();
    private final Net trial = new Net();
    private final Net[] slots = new Net[SLOTS];
    private final Scene scene = new Scene();
    private final Judge judge = new Judge();
    private final Ledger ledger = new Ledger();
    private final Reader reader = new Reader();
    private final int[] tape = new int[MOST_BYTES];
    private int taped = 0;
    private final Search search = new Search();
    private final Sums sums = new Sums();
    private final Cover cover = new Cover();
    private final Mender mender = new Mender();
    private final Formula firstInLine = Formula.ofFirstInLine();
    private final Formula nextInLine = Formula.ofNextInLine();

    public HatHall() {
    }

    public boolean hall(int n, int q) {
        if (!Net.fits(n, q)) {
            return false;
        }
        net.open(n, q);
        ledger.spoil();
        return true;
    }

    public boolean looks(int wearer, int set) throws NoSuchElementException {
        needWearer(wearer);
        if ((set & ~net.othersOf(wearer)) != 0) {
            return false;
        }
        net.lookAt(wearer, set);
        ledger.spoil();
        return true;
    }

    public boolean round(int wearer, int round) throws NoSuchElementException {
        needWearer(wearer);
        if (round < 0 || round > MOST_ROUND) {
            return false;
        }
        net.guessIn(wearer, round);
        ledger.spoil();
        return true;
    }

    public boolean heap(int colour, int many) {
        if (colour < 0 || colour >= net.q || many < 0 || many > MOST_HATS) {
            return false;
        }
        judge.heap[colour] = many;
        ledger.spoil();
        return true;
    }

    public boolean law(int law, int k) {
        if (law < Judge.SOME || law > Judge.FEW || k < 0 || k > MOST_WEARERS) {
            return false;
        }
        judge.law = law;
        judge.k = k;
        return true;
    }

    public int feed(int a, int b, int c, int d, int e) {
        if (taped + 20 > MOST_BYTES) {
            return NONE;
        }
        putBytes(a);
        putBytes(b);
        putBytes(c);
        putBytes(d);
        putBytes(e);
        return taped;
    }

    public int rules(int n) throws IllegalArgumentException {
        if (n < 0 || n > taped) {
            throw new IllegalArgumentException("the tape has not so many bytes");
        }
        taped = 0;
        reader.read(tape, n, net.n);
        if (reader.fault == 0) {
            net.follow(reader.made);
            ledger.spoil();
        }
        return reader.fault;
    }

    public int fault() {
        return reader.place;
    }

    public int about(int wearer, int what) throws NoSuchElementException {
        needWearer(wearer);
        switch (what) {
            case 0:
                return net.looks[wearer];
            case 1:
                return net.rounds[wearer];
            case 2:
                return net.hears[wearer];
            case 3:
                return net.views[wearer];
            case 4:
                return net.kindOfRule(wearer);
            default:
                throw new NoSuchElementException("nothing such is known of a wearer");
        }
    }

    public boolean tell(int wearer, int view, int guess) throws NoSuchElementException {
        needWearer(wearer);
        if (view < 0 || view >= net.views[wearer] || guess < 0 || guess > net.q) {
            return false;
        }
        if (net.texts[wearer] != null) {
            net.startTable(wearer);
        }
        net.setGuess(wearer, view, guess);
        ledger.spoil();
        return true;
    }

    public int cell(int wearer, int view) throws NoSuchElementException {
        needWearer(wearer);
        if (!net.hasTable(wearer) || view < 0 || view >= net.views[wearer]) {
            throw new NoSuchElementException("no such guess in a table");
        }
        return net.guessAt(wearer, view);
    }

    public int in(int row, int wearer, int what) throws NoSuchElementException {
        needRow(row);
        needWearer(wearer);
        if (what < 0 || what > 1 || (what == 0 && net.views[wearer] == NONE)) {
            throw new NoSuchElementException("nothing such is known of a wearer in a row");
        }
        scene.play(net, row);
        return what == 0 ? scene.viewOf(net, wearer) : scene.guesses[wearer];
    }

    public int row(int row, int what) throws NoSuchElementException {
        needRow(row);
        scene.play(net, row);
        switch (what) {
            case 0:
                return scene.rightOnes(net);
            case 1:
                return scene.wrongOnes(net);
            case 2:
                return judge.weigh(scene, net.n) > 0 ? 1 : 0;
            case 3:
                return judge.isWon(scene.rightOnes(net), scene.wrongOnes(net), net.n) ? 1 : 0;
            default:
                throw new NoSuchElementException("nothing such is known of a row");
        }
    }

    public long won(int what) throws NoSuchElementException {
        if (what < 0 || what > 3) {
            throw new NoSuchElementException("no such sum");
        }
        ledger.fill(net, judge, scene);
        boolean wonOnly = what == 1 || what == 3;
        return what < 2 ? ledger.countRows(net, judge, wonOnly) : ledger.sumWeights(net, judge, scene, wonOnly);
    }

    public int beaten(int i) {
        ledger.fill(net, judge, scene);
        return ledger.rowBeaten(net, judge, i);
    }

    public int tally(int k) {
        ledger.fill(net, judge, scene);
        return ledger.rowsWithRight(net, k);
    }

    public int rightOf(int wearer) throws NoSuchElementException {
        needWearer(wearer);
        ledger.fill(net, judge, scene);
        return ledger.rowsRightFor(net, wearer);
    }

    public int worst(int what) throws NoSuchElementException {
        if (what < 0 || what > 1) {
            throw new NoSuchElementException("no such thing of the worst row");
        }
        ledger.fill(net, judge, scene);
        int first = ledger.worstRow(net);
        return what == 1 || first == NONE ? first : ledger.wrongIn(first);
    }

    public int idle(int wearer) throws NoSuchElementException {
        needWearer(wearer);
        int idle = net.looks[wearer];
        for (int row = 0; row < net.rows && idle != 0; row++) {
            scene.play(net, row);
            idle &= ~scene.looksThatMatter(net, wearer, idle);
        }
        return idle;
    }

    public int otherwise(int wearer, int at) throws NoSuchElementException {
        needWearer(wearer);
        needWearer(at);
        if (wearer == at) {
            return NONE;
        }
        trial.copy(net);
        trial.lookAt(wearer, trial.looks[wearer] ^ (1 << at));
        int won = 0;
        for (int row = 0; row < trial.rows; row++) {
            scene.dress(trial, row);
            if (judge.weigh(scene, trial.n) > 0) {
                scene.guessAll(trial);
                won += judge.isWon(scene.rightOnes(trial), scene.wrongOnes(trial), trial.n) ? 1 : 0;
            }
        }
        return won;
    }

    public int alike() {
        return net.countPlacings();
    }

    public int ring() {
        return net.shortestRing();
    }

    public int search(int steps) throws IllegalArgumentException {
        if (steps < 0 || steps > MOST_STEPS) {
            throw new IllegalArgumentException("steps must be 0 to 5000");
        }
        needTablesAtOnce();
        int found = search.seek(net, scene, steps);
        if (found == Search.FOUND) {
            search.settle(net);
            ledger.spoil();
        }
        return found;
    }

    public int steps() {
        return search.made;
    }

    public int sums() throws IllegalArgumentException {
        needTablesAtOnce();
        if (net.rows > SMALL) {
            throw new IllegalArgumentException("there are too many rows");
        }
        int won = sums.seek(net, judge, scene);
        sums.settle(net);
        ledger.spoil();
        return won;
    }

    public int constant(int wearer) throws NoSuchElementException {
        needWearer(wearer);
        if (wearer >= sums.wearers) {
            throw new NoSuchElementException("no constant of that wearer");
        }
        return sums.best[wearer];
    }

    public int cover() {
        if (net.q != 2 || net.n > COVERED_WEARERS) {
            return NONE;
        }
        cover.seek(net.n);
        cover.settle(net);
        ledger.spoil();
        return cover.many;
    }

    public int given(int i) throws NoSuchElementException {
        if (i < 0 || i >= cover.many) {
            throw new NoSuchElementException("no such row is given up");
        }
        return cover.chosen[i];
    }

    public int line() {
        net.standInLine(firstInLine, nextInLine);
        ledger.spoil();
        return worst(0);
    }

    public int mend(int most) throws IllegalArgumentException {
        if (most < 0 || most > MOST_MENDED) {
            throw new IllegalArgumentException("most must be 0 to 20");
        }
        if (net.rows > SMALL || net.viewsInTables() > SMALL) {
            return NONE;
        }
        int mended = 0;
        while (mended < most && mender.mendOne(net, judge)) {
            mended++;
        }
        ledger.spoil();
        return mended;
    }

    public int draw(int seed) {
        ledger.spoil();
        return net.drawTables(seed);
    }

    public boolean keep(int slot) {
        if (slot < 0 || slot >= SLOTS) {
            return false;
        }
        if (slots[slot] == null) {
            slots[slot] = new Net();
        }
        slots[slot].copy(net);
        return true;
    }

    public boolean take(int slot) {
        if (slot < 0 || slot >= SLOTS || slots[slot] == null) {
            return false;
        }
        net.copy(slots[slot]);
        ledger.spoil();
        return true;
    }

    public int count(int what) throws NoSuchElementException {
        switch (what) {
            case 0:
                return net.n;
            case 1:
                return net.q;
            case 2:
                return net.rows;
            case 3:
                return judge.law;
            case 4:
                return judge.k;
            case 5:
                return taped;
            case 6:
                return net.countTexts();
            default:
                throw new NoSuchElementException("nothing such is counted");
        }
    }

    private void needWearer(int wearer) {
        if (wearer < 0 || wearer >= net.n) {
            throw new NoSuchElementException("no such wearer");
        }
    }

    private void needRow(int row) {
        if (row < 0 || row >= net.rows) {
            throw new NoSuchElementException("no such row");
        }
    }

    private void needTablesAtOnce() {
        for (int w = 0; w < net.n; w++) {
            if (net.rounds[w] != 0 || net.views[w] == NONE) {
                throw new IllegalArgumentException("not all guess in round 0 with tables");
            }
        }
    }

    private void putBytes(int number) {
        for (int shift = 24; shift >= 0 && taped < MOST_BYTES; shift -= 8) {
            tape[taped] = number >>> shift & 255;
            taped++;
        }
    }

    /** What a slot can keep: the wearers, whom they see and hear, and their rules. */
    private static final class Net {
        private static final int MOST_PLACED = 6;

        int n;
        int q;
        int rows;
        final int[] looks = new int[MOST_WEARERS];
        final int[] rounds = new int[MOST_WEARERS];
        final int[] hears = new int[MOST_WEARERS];
        /** How many views each wearer has; NONE: too many for a table. */
        final int[] views = new int[MOST_WEARERS];
        /** All wearers, those of lesser rounds first, so that whom one hears has guessed before it. */
        final int[] order = new int[MOST_WEARERS];
        /** The rules told by texts; null: the wearer goes by its table, if it has one. */
        final Formula[] texts = new Formula[MOST_WEARERS];
        private final byte[] tables = new byte[MOST_WEARERS * MOST_VIEWS];
        private final int[] placed = new int[MOST_PLACED];

        Net() {
            open(2, 2);
        }

        static boolean fits(int n, int q) {
            if (n < 1 || n > MOST_WEARERS || q < 2 || q > MOST_COLOURS) {
                return false;
            }
            int rows = 1;
            for (int w = 0; w < n; w++) {
                rows *= q;
            }
            return rows <= MOST_ROWS;
        }

        void open(int wearers, int colours) {
            n = wearers;
            q = colours;
            rows = 1;
            for (int w = 0; w < n; w++) {
                rows *= q;
            }
            lookAtAllAtOnce();
        }

        /** All look at all others, all rounds are 0, all tables are of 0. */
        void lookAtAllAtOnce() {
            for (int w = 0; w < n; w++) {
                looks[w] = othersOf(w);
                rounds[w] = 0;
                hears[w] = 0;
                order[w] = w;
                startTable(w);
            }
        }

        void copy(Net other) {
            n = other.n;
            q = other.q;
            rows = other.rows;
            System.arraycopy(other.looks, 0, looks, 0, MOST_WEARERS);
            System.arraycopy(other.rounds, 0, rounds, 0, MOST_WEARERS);
            System.arraycopy(other.hears, 0, hears, 0, MOST_WEARERS);
            System.arraycopy(other.views, 0, views, 0, MOST_WEARERS);
            System.arraycopy(other.order, 0, order, 0, MOST_WEARERS);
            System.arraycopy(other.tables, 0, tables, 0, n * MOST_VIEWS);
            for (int w = 0; w < MOST_WEARERS; w++) {
                texts[w] = other.texts[w];
            }
        }

        int othersOf(int wearer) {
            return ((1 << n) - 1) & ~(1 << wearer);
        }

        void lookAt(int wearer, int set) {
            if (looks[wearer] != set) {
                looks[wearer] = set;
                clearTable(wearer);
            }
        }

        void guessIn(int wearer, int round) {
            rounds[wearer] = round;
            orderByRounds();
            for (int w = 0; w < n; w++) {
                int heard = earlierThan(rounds[w]);
                if (hears[w] != heard) {
                    hears[w] = heard;
                    clearTable(w);
                }
            }
        }

        private int earlierThan(int round) {
            int set = 0;
            for (int w = 0; w < n; w++) {
                if (rounds[w] < round) {
                    set |= 1 << w;
                }
            }
            return set;
        }

        private void orderByRounds() {
            int next = 0;
            for (int round = 0; round <= MOST_ROUND; round++) {
                for (int w = 0; w < n; w++) {
                    if (rounds[w] == round) {
                        order[next] = w;
                        next++;
                    }
                }
            }
        }

        private int countViews(int wearer) {
            int many = 1;
            for (int w = 0; w < n; w++) {
                if ((looks[wearer] >> w & 1) == 1) {
                    many *= q;
                }
                if ((hears[wearer] >> w & 1) == 1) {
                    many *= q + 1;
                }
                if (many > MOST_VIEWS) {
                    return NONE;
                }
            }
            return many;
        }

        /** A text's rule stays: only what the wearer goes by without one is new. */
        private void clearTable(int wearer) {
            views[wearer] = countViews(wearer);
            for (int view = 0; view < views[wearer]; view++) {
                tables[wearer * MOST_VIEWS + view] = 0;
            }
        }

        void startTable(int wearer) {
            texts[wearer] = null;
            clearTable(wearer);
        }

        boolean hasTable(int wearer) {
            return texts[wearer] == null && views[wearer] != NONE;
        }

        int kindOfRule(int wearer) {
            if (texts[wearer] != null) {
                return 1;
            }
            return views[wearer] == NONE ? 2 : 0;
        }

        int guessAt(int wearer, int view) {
            return tables[wearer * MOST_VIEWS + view];
        }

        void setGuess(int wearer, int view, int guess) {
            tables[wearer * MOST_VIEWS + view] = (byte) guess;
        }

        void follow(Formula[] told) {
            for (int w = 0; w < n; w++) {
                if (told[w] != null) {
                    texts[w] = told[w];
                }
            }
        }

        int countTexts() {
            int many = 0;
            for (int w = 0; w < n; w++) {
                many += texts[w] != null ? 1 : 0;
            }
            return many;
        }

        int viewsInTables() {
            int many = 0;
            for (int w = 0; w < n; w++) {
                many += hasTable(w) ? views[w] : 0;
            }
            return many;
        }

        void standInLine(Formula first, Formula next) {
            for (int w = 0; w < n; w++) {
                lookAt(w, othersOf(w) >> w << w);
                guessIn(w, w);
                texts[w] = w == 0 ? first : next;
            }
        }

        int drawTables(int seed) {
            int drawn = 0;
            int now = seed;
            for (int w = 0; w < n; w++) {
                for (int view = 0; hasTable(w) && view < views[w]; view++) {
                    now = now * 1103515245 + 12345;
                    setGuess(w, view, (now >>> 16 & 32767) % q);
                    drawn++;
                }
            }
            return drawn;
        }

        int shortestRing() {
            int shortest = NONE;
            for (int first = 0; first < n; first++) {
                int reached = 1 << first;
                for (int length = 1; length <= n; length++) {
                    reached = seenByAnyOf(reached);
                    if ((reached >> first & 1) == 1 && (shortest == NONE || length < shortest)) {
                        shortest = length;
                    }
                }
            }
            return shortest;
        }

        private int seenByAnyOf(int set) {
            int seen = 0;
            for (int w = 0; w < n; w++) {
                if ((set >> w & 1) == 1) {
                    seen |= looks[w];
                }
            }
            return seen;
        }

        /** In how many ways all can take one another's places and the net stays the same. */
        int countPlacings() {
            return n > MOST_PLACED ? NONE : placeFrom(this, 0, 0);
        }

        /** In how many ways the wearers from this one on can be placed, those before it having their places. */
        private static int placeFrom(Net net, int wearer, int taken) {
            if (wearer >= net.n || wearer >= MOST_PLACED) {
                return 1;
            }
            int many = 0;
            for (int place = 0; place < net.n; place++) {
                net.placed[wearer] = place;
                if ((taken >> place & 1) == 0 && net.suits(wearer)) {
                    many += placeFrom(net, wearer + 1, taken | 1 << place);
                }
            }
            return many;
        }

        private boolean suits(int wearer) {
            int place = placed[wearer];
            if (rounds[wearer] != rounds[place]) {
                return false;
            }
            for (int w = 0; w < wearer; w++) {
                boolean there = (looks[wearer] >> w & 1) == (looks[place] >> placed[w] & 1);
                boolean back = (looks[w] >> wearer & 1) == (looks[placed[w]] >> place & 1);
                if (!there || !back) {
                    return false;
                }
            }
            return true;
        }
    }

    /** One row of hats with what is guessed in it. */
    private static final class Scene {
        final int[] hats = new int[MOST_WEARERS];
        final int[] guesses = new int[MOST_WEARERS];

        void copy(Scene other) {
            System.arraycopy(other.hats, 0, hats, 0, MOST_WEARERS);
            System.arraycopy(other.guesses, 0, guesses, 0, MOST_WEARERS);
        }

        void dress(Net net, int row) {
            int rest = row;
            for (int w = 0; w < net.n; w++) {
                hats[w] = rest % net.q;
                rest /= net.q;
            }
        }

        /** The hats of the next row. */
        void dressNext(Net net) {
            int w = 0;
            while (w < net.n && hats[w] == net.q - 1) {
                hats[w] = 0;
                w++;
            }
            if (w < net.n) {
                hats[w]++;
            }
        }

        void guessAll(Net net) {
            for (int i = 0; i < net.n; i++) {
                int wearer = net.order[i];
                guesses[wearer] = guessOf(net, wearer);
            }
        }

        void play(Net net, int row) {
            dress(net, row);
            guessAll(net);
        }

        /** One wearer guesses another colour; those that hear it, or hear who heard it, guess anew. */
        void guessAnew(Net net, int wearer, int guess) {
            guesses[wearer] = guess;
            for (int i = 0; i < net.n; i++) {
                int other = net.order[i];
                if (net.rounds[other] > net.rounds[wearer]) {
                    guesses[other] = guessOf(net, other);
                }
            }
        }

        int guessOf(Net net, int wearer) {
            Formula text = net.texts[wearer];
            if (text != null) {
                return text.guess(net, wearer, this);
            }
            return net.views[wearer] == NONE ? 0 : net.guessAt(wearer, viewOf(net, wearer));
        }

        /** Asked only of wearers whose views are not too many. */
        int viewOf(Net net, int wearer) {
            int view = 0;
            int place = 1;
            int rest = net.looks[wearer];
            for (int w = 0; w < net.n && rest != 0; w++, rest >>= 1) {
                if ((rest & 1) == 1) {
                    view += hats[w] * place;
                    place *= net.q;
                }
            }
            rest = net.hears[wearer];
            for (int w = 0; w < net.n && rest != 0; w++, rest >>= 1) {
                if ((rest & 1) == 1) {
                    view += guesses[w] * place;
                    place *= net.q + 1;
                }
            }
            return view;
        }

        int rightOnes(Net net) {
            int set = 0;
            for (int w = 0; w < net.n; w++) {
                if (guesses[w] == hats[w]) {
                    set |= 1 << w;
                }
            }
            return set;
        }

        int wrongOnes(Net net) {
            int set = 0;
            for (int w = 0; w < net.n; w++) {
                if (guesses[w] != hats[w] && guesses[w] != net.q) {
                    set |= 1 << w;
                }
            }
            return set;
        }

        /** Which of these looks would change the wearer's guess in this row by another hat. */
        int looksThatMatter(Net net, int wearer, int asked) {
            int matter = 0;
            for (int w = 0; w < net.n; w++) {
                if ((asked >> w & 1) == 1 && changesGuess(net, wearer, w)) {
                    matter |= 1 << w;
                }
            }
            return matter;
        }

        private boolean changesGuess(Net net, int wearer, int seen) {
            int hat = hats[seen];
            boolean changes = false;
            for (int colour = 0; colour < net.q && !changes; colour++) {
                hats[seen] = colour;
                changes = guessOf(net, wearer) != guesses[wearer];
            }
            hats[seen] = hat;
            return changes;
        }
    }

    /** A rule told by a text: parts in a row, each of which takes the values of earlier ones. */
    private static final class Formula {
        private final int[] kinds;
        private final int[] left;
        private final int[] right;
        private final int[] values;
        /** The parts of 'pass' stand first; 0: there is no 'pass'. */
        private final int passParts;

        Formula(int[] kinds, int[] left, int[] right, int passParts) {
            this.kinds = kinds;
            this.left = left;
            this.right = right;
            this.passParts = passParts;
            this.values = new int[kinds.length];
        }

        static Formula ofFirstInLine() {
            return new Formula(new int[] {Reader.SEEN}, new int[] {0}, new int[] {0}, 0);
        }

        /** hears 0 - seen - (heard - hears 0) */
        static Formula ofNextInLine() {
            int[] kinds = {Reader.HEARS, Reader.SEEN, '-', Reader.HEARD, Reader.HEARS, '-', '-'};
            int[] left = {0, 0, 0, 0, 0, 3, 2};
            int[] right = {0, 0, 1, 0, 0, 4, 5};
            return new Formula(kinds, left, right, 0);
        }

        int guess(Net net, int wearer, Scene scene) {
            int latest = 0;
            for (int i = 0; i < kinds.length; i++) {
                boolean joins = kinds[i] < Reader.END || kinds[i] >= Reader.NOT;
                latest = joins ? join(i) : look(i, net, wearer, scene);
                values[i] = latest;
                if (i == passParts - 1 && latest != 0) {
                    return net.q;
                }
            }
            return Math.floorMod(latest, net.q);
        }

        private int look(int i, Net net, int wearer, Scene scene) {
            int told = left[i];
            switch (kinds[i]) {
                case Reader.NUMBER:
                    return told;
                case Reader.ME:
                    return wearer;
                case Reader.WEARERS:
                    return net.n;
                case Reader.COLOURS:
                    return net.q;
                case Reader.SEES:
                    return sumOf(scene.hats, net.looks[wearer] & 1 << told);
                case Reader.HEARS:
                    return sumOf(scene.guesses, net.hears[wearer] & 1 << told);
                case Reader.SEEN:
                    return sumOf(scene.hats, net.looks[wearer]);
                default:
                    return sumOf(scene.guesses, net.hears[wearer]);
            }
        }

        private static int sumOf(int[] numbers, int set) {
            int sum = 0;
            for (int w = 0; w < MOST_WEARERS; w++) {
                if ((set >> w & 1) == 1) {
                    sum += numbers[w];
                }
            }
            return sum;
        }

        private int join(int i) {
            int a = values[left[i]];
            int b = values[right[i]];
            switch (kinds[i]) {
                case '+':
                    return a + b;
                case '-':
                    return a - b;
                case '*':
                    return a * b;
                case '/':
                    return b == 0 ? 0 : a / b;
                case '<':
                    return a < b ? 1 : 0;
                case '=':
                    return a == b ? 1 : 0;
                case Reader.NOT:
                    return a == 0 ? 1 : 0;
                case Reader.AND:
                    return a != 0 && b != 0 ? 1 : 0;
                default:
                    return a != 0 || b != 0 ? 1 : 0;
            }
        }
    }

    /** Reads a text into formulas, up to its first fault. */
    private static final class Reader {
        /** Kinds of tokens: a sign's is its byte, which is less than these; those from WORD on are words'. */
        static final int END = 128;
        static final int NO_TOKEN = 129;
        static final int STOPPED = 130;
        static final int NUMBER = 131;
        static final int LONG_NUMBER = 132;
        static final int WORD = 140;
        static final int WEARER = 141;
        static final int PASS = 142;
        static final int GUESS = 143;
        static final int ME = 144;
        static final int WEARERS = 145;
        static final int COLOURS = 146;
        static final int SEES = 147;
        static final int HEARS = 148;
        static final int SEEN = 149;
        static final int HEARD = 150;
        static final int NOT = 151;
        static final int AND = 152;
        static final int OR = 153;
        /** The words in the order of their kinds, from WEARER on, each with a blank behind it. */
        private static final String WORDS = "wearer pass guess me n q sees hears seen heard not and or ";

        static final int MISPLACED = 1;
        static final int TOO_MUCH = 2;
        static final int NO_PART = 3;
        static final int NO_WEARER = 4;

        static final int MOST_RULES = 16;
        static final int MOST_WITHIN = 5;
        static final int MOST_NOTS = 6;
        /** More than three digits can tell. */
        static final int ANY_NUMBER = 1000;

        int fault = 0;
        int place = NONE;
        final Formula[] made = new Formula[MOST_WEARERS];
        private int[] text = new int[0];
        private int length = 0;
        private int wearers = 0;
        private int at = 0;
        private int start = 0;
        private int kind = END;
        private int value = 0;
        private final int[] kinds = new int[MOST_BYTES];
        private final int[] left = new int[MOST_BYTES];
        private final int[] right = new int[MOST_BYTES];
        private int parts = 0;

        void read(int[] bytes, int many, int n) {
            text = bytes;
            length = many;
            wearers = n;
            fault = 0;
            place = NONE;
            at = 0;
            kind = END;
            for (int w = 0; w < MOST_WEARERS; w++) {
                made[w] = null;
            }
            next();
            for (int rule = 0; rule <= MOST_RULES && kind != END && kind != STOPPED; rule++) {
                if (kind != WEARER) {
                    stop(MISPLACED);
                } else if (rule == MOST_RULES) {
                    stop(TOO_MUCH);
                } else {
                    readRule();
                }
            }
        }

        private void readRule() {
            next();
            int wearer = readNumber(wearers);
            int passParts = 0;
            parts = 0;
            if (kind == PASS) {
                next();
                readOr(0);
                passParts = parts;
            }
            expect(GUESS);
            readOr(0);
            expect(';');
            if (kind != STOPPED) {
                made[wearer] = new Formula(Arrays.copyOf(kinds, parts), Arrays.copyOf(left, parts),
                        Arrays.copyOf(right, parts), passParts);
            }
        }

        /** An EXPR that stands within so many others. */
        private int readOr(int within) {
            if (within > MOST_WITHIN && (isNumber() || isWord() || kind == '(')) {
                stop(TOO_MUCH);
                return 0;
            }
            int part = readAnd(within);
            for (int i = 0; i < length && kind == OR; i++) {
                next();
                part = add(OR, part, readAnd(within));
            }
            return part;
        }

        private int readAnd(int within) {
            int part = readNot(within);
            for (int i = 0; i < length && kind == AND; i++) {
                next();
                part = add(AND, part, readNot(within));
            }
            return part;
        }

        private int readNot(int within) {
            int nots = 0;
            for (int i = 0; i < MOST_NOTS && kind == NOT; i++) {
                next();
                nots++;
            }
            if (kind == NOT) {
                stop(TOO_MUCH);
            }
            int part = readTest(within);
            for (int i = 0; i < nots; i++) {
                part = add(NOT, part, part);
            }
            return part;
        }

        private int readTest(int within) {
            int part = readSum(within);
            if (kind == '<' || kind == '=') {
                int sign = kind;
                next();
                part = add(sign, part, readSum(within));
            }
            return part;
        }

        private int readSum(int within) {
            int part = readProduct(within);
            for (int i = 0; i < length && (kind == '+' || kind == '-'); i++) {
                int sign = kind;
                next();
                part = add(sign, part, readProduct(within));
            }
            return part;
        }

        private int readProduct(int within) {
            int part = readPart(within);
            for (int i = 0; i < length && (kind == '*' || kind == '/'); i++) {
                int sign = kind;
                next();
                part = add(sign, part, readPart(within));
            }
            return part;
        }

        private int readPart(int within) {
            int first = kind;
            if (first == '(') {
                next();
                int part = readOr(within + 1);
                expect(')');
                return part;
            }
            if (isNumber()) {
                return add(NUMBER, readNumber(ANY_NUMBER), 0);
            }
            if (first < ME || first > HEARD) {
                stop(isWord() ? NO_PART : MISPLACED);
                return 0;
            }
            next();
            return add(first, first == SEES || first == HEARS ? readNumber(wearers) : 0, 0);
        }

        /** A NUMBER; where a wearer's must stand, the limit is how many there are. */
        private int readNumber(int limit) {
            int number = value;
            if (kind == NUMBER && number < limit) {
                next();
                return number;
            }
            if (kind == NUMBER) {
                stop(NO_WEARER);
            } else {
                stop(kind == LONG_NUMBER ? TOO_MUCH : MISPLACED);
            }
            return 0;
        }

        /** A part for the formula; its place among the parts. */
        private int add(int sort, int first, int second) {
            if (kind == STOPPED || parts >= MOST_BYTES) {
                return 0;
            }
            kinds[parts] = sort;
            left[parts] = first;
            right[parts] = second;
            parts++;
            return parts - 1;
        }

        private void expect(int due) {
            if (kind == due) {
                next();
            } else {
                stop(MISPLACED);
            }
        }

        /** The first fault stays: behind it no token is read any more. */
        private void stop(int sort) {
            if (kind != STOPPED) {
                fault = sort;
                place = start;
                kind = STOPPED;
            }
        }

        private boolean isNumber() {
            return kind == NUMBER || kind == LONG_NUMBER;
        }

        private boolean isWord() {
            return kind >= WORD;
        }

        private void next() {
            if (kind == STOPPED) {
                return;
            }
            while (at < length && (text[at] == ' ' || text[at] == '\n')) {
                at++;
            }
            start = at;
            if (at >= length) {
                kind = END;
            } else if (isLetter(text[at])) {
                scanWord();
            } else if (isDigit(text[at])) {
                scanNumber();
            } else {
                kind = isSign(text[at]) ? text[at] : NO_TOKEN;
                at++;
            }
        }

        private void scanWord() {
            while (at < length && isLetter(text[at])) {
                at++;
            }
            kind = kindOfWord();
        }

        private void scanNumber() {
            value = 0;
            while (at < length && isDigit(text[at])) {
                value = value < ANY_NUMBER ? value * 10 + text[at] - '0' : value;
                at++;
            }
            kind = at - start > 3 ? LONG_NUMBER : NUMBER;
        }

        private static boolean isLetter(int sign) {
            return sign >= 'a' && sign <= 'z';
        }

        private static boolean isDigit(int sign) {
            return sign >= '0' && sign <= '9';
        }

        private static boolean isSign(int sign) {
            return sign >= '(' && sign <= '+' || sign == '-' || sign == '/' || sign >= ';' && sign <= '=';
        }

        /** The token from start to at is a word: its kind by its place among WORDS. */
        private int kindOfWord() {
            int sort = WEARER;
            int alike = 0;
            for (int i = 0; i < WORDS.length(); i++) {
                int letter = WORDS.charAt(i);
                if (letter != ' ') {
                    boolean same = alike >= 0 && start + alike < at && text[start + alike] == letter;
                    alike = same ? alike + 1 : NONE;
                } else if (start + alike == at) {
                    return sort;
                } else {
                    sort++;
                    alike = 0;
                }
            }
            return WORD;
        }
    }

    /** The heap and the law: which rows count, and which are won. */
    private static final class Judge {
        static final int SOME = 0;
        static final int JUST = 1;
        static final int NONE_WRONG = 2;
        static final int FEW = 3;

        final int[] heap = {8, 8, 8, 8};
        int law = SOME;
        int k = 1;
        private final int[] left = new int[MOST_COLOURS];

        /** In how many ways the heap's hats can lie so; 0: it has too few, so the row doesn't count. */
        long weigh(Scene scene, int n) {
            System.arraycopy(heap, 0, left, 0, MOST_COLOURS);
            long ways = 1;
            for (int w = 0; w < n; w++) {
                int hat = scene.hats[w];
                ways *= left[hat];
                left[hat]--;
            }
            return ways;
        }

        boolean isWon(int rightOnes, int wrongOnes, int n) {
            int right = Integer.bitCount(rightOnes);
            switch (law) {
                case SOME:
                    return right >= k;
                case JUST:
                    return right == k;
                case NONE_WRONG:
                    return wrongOnes == 0 && right >= k;
                default:
                    return n - right <= k;
            }
        }
    }

    /** What came of every row, written once and read until something changes. */
    private static final class Ledger {
        private static final int WRONG_SHIFT = 8;
        private static final int ALL = 255;
        private static final int COUNTS = 1 << 16;

        /** Who is right in bits 0 to 7, who is wrong in bits 8 to 15, whether the row counts in bit 16. */
        private final int[] marks = new int[MOST_ROWS];
        private boolean fresh = false;

        void spoil() {
            fresh = false;
        }

        void fill(Net net, Judge judge, Scene scene) {
            for (int row = 0; row < net.rows && !fresh; row++) {
                scene.dress(net, row);
                scene.guessAll(net);
                int counts = judge.weigh(scene, net.n) > 0 ? COUNTS : 0;
                marks[row] = scene.rightOnes(net) | scene.wrongOnes(net) << WRONG_SHIFT | counts;
            }
            fresh = true;
        }

        private boolean counts(int row) {
            return (marks[row] & COUNTS) != 0;
        }

        private boolean isWon(int row, Judge judge, int n) {
            return judge.isWon(marks[row] & ALL, marks[row] >> WRONG_SHIFT & ALL, n);
        }

        int wrongIn(int row) {
            return Integer.bitCount(marks[row] >> WRONG_SHIFT & ALL);
        }

        int countRows(Net net, Judge judge, boolean wonOnly) {
            int many = 0;
            for (int row = 0; row < net.rows; row++) {
                if (counts(row) && (!wonOnly || isWon(row, judge, net.n))) {
                    many++;
                }
            }
            return many;
        }

        long sumWeights(Net net, Judge judge, Scene scene, boolean wonOnly) {
            long sum = 0;
            for (int row = 0; row < net.rows; row++) {
                if (counts(row) && (!wonOnly || isWon(row, judge, net.n))) {
                    scene.dress(net, row);
                    sum += judge.weigh(scene, net.n);
                }
            }
            return sum;
        }

        int rowBeaten(Net net, Judge judge, int i) {
            int before = 0;
            for (int row = 0; row < net.rows; row++) {
                if (counts(row) && !isWon(row, judge, net.n)) {
                    if (before == i) {
                        return row;
                    }
                    before++;
                }
            }
            return NONE;
        }

        int rowsWithRight(Net net, int k) {
            int many = 0;
            for (int row = 0; row < net.rows; row++) {
                if (counts(row) && Integer.bitCount(marks[row] & ALL) == k) {
                    many++;
                }
            }
            return many;
        }

        int rowsRightFor(Net net, int wearer) {
            int many = 0;
            for (int row = 0; row < net.rows; row++) {
                if (counts(row) && (marks[row] >> wearer & 1) == 1) {
                    many++;
                }
            }
            return many;
        }

        int worstRow(Net net) {
            int worst = NONE;
            for (int row = 0; row < net.rows; row++) {
                if (counts(row) && (worst == NONE || wrongIn(row) > wrongIn(worst))) {
                    worst = row;
                }
            }
            return worst;
        }
    }

    /** Tables by which in every row some wearer is right, sought guess by guess. */
    private static final class Search {
        static final int FOUND = 1;
        static final int NO_TABLES = 0;
        static final int SPENT = -2;

        int made = NONE;
        /** Of each wearer and view the colour that is settled and 1 more; 0: none is. */
        private final byte[] settled = new byte[MOST_WEARERS * MOST_VIEWS];
        /** The rows and wearers whose guesses were settled, the latest last. */
        private final short[] rowsDone = new short[MOST_STEPS];
        private final byte[] wearersDone = new byte[MOST_STEPS];

        int seek(Net net, Scene scene, int limit) {
            Arrays.fill(settled, (byte) 0);
            made = 0;
            int depth = 0;
            int row = rowNotRight(net, scene, 0);
            int from = 0;
            // Each turn settles a guess or takes one back.
            for (int turn = 0; turn <= 2 * limit + 1 && row < net.rows; turn++) {
                scene.dress(net, row);
                int wearer = unsettledWearer(net, scene, from);
                if (wearer != NONE) {
                    if (made >= limit || depth >= MOST_STEPS) {
                        return SPENT;
                    }
                    settled[cellOf(net, scene, wearer)] = (byte) (scene.hats[wearer] + 1);
                    rowsDone[depth] = (short) row;
                    wearersDone[depth] = (byte) wearer;
                    depth++;
                    made++;
                    row = rowNotRight(net, scene, row + 1);
                    from = 0;
                } else if (depth == 0) {
                    return NO_TABLES;
                } else {
                    depth--;
                    row = rowsDone[depth];
                    scene.dress(net, row);
                    settled[cellOf(net, scene, wearersDone[depth])] = 0;
                    from = wearersDone[depth] + 1;
                }
            }
            return row < net.rows ? SPENT : FOUND;
        }

        /** The first row from this one on in which no settled guess is right; the number of rows: there is none. */
        private int rowNotRight(Net net, Scene scene, int first) {
            scene.dress(net, first);
            for (int row = first; row < net.rows; row++) {
                if (!someoneIsRight(net, scene)) {
                    return row;
                }
                scene.dressNext(net);
            }
            return net.rows;
        }

        private boolean someoneIsRight(Net net, Scene scene) {
            for (int w = 0; w < net.n; w++) {
                if (settled[cellOf(net, scene, w)] == scene.hats[w] + 1) {
                    return true;
                }
            }
            return false;
        }

        private int unsettledWearer(Net net, Scene scene, int from) {
            for (int w = from; w < net.n; w++) {
                if (settled[cellOf(net, scene, w)] == 0) {
                    return w;
                }
            }
            return NONE;
        }

        private int cellOf(Net net, Scene scene, int wearer) {
            return wearer * MOST_VIEWS + scene.viewOf(net, wearer);
        }

        void settle(Net net) {
            for (int w = 0; w < net.n; w++) {
                net.startTable(w);
                for (int view = 0; view < net.views[w]; view++) {
                    int colour = settled[w * MOST_VIEWS + view] - 1;
                    net.setGuess(w, view, colour < 0 ? 0 : colour);
                }
            }
        }
    }

    /** The best constants, of which each wearer takes away what it sees. */
    private static final class Sums {
        final int[] best = new int[MOST_WEARERS];
        /** Of how many wearers the constants are; 0: none were sought yet. */
        int wearers = 0;
        private final int[] tried = new int[MOST_WEARERS];
        /** Of each row that counts the constants by which its wearers are right: a bit of four for each. */
        private final int[] needs = new int[SMALL];
        private final boolean[] wonByRight = new boolean[MOST_WEARERS + 1];

        int seek(Net net, Judge judge, Scene scene) {
            int many = noteNeeds(net, judge, scene);
            for (int right = 0; right <= net.n; right++) {
                int rightOnes = (1 << right) - 1;
                wonByRight[right] = judge.isWon(rightOnes, (1 << net.n) - 1 & ~rightOnes, net.n);
            }
            wearers = net.n;
            Arrays.fill(tried, 0);
            int most = NONE;
            for (int i = 0; i < net.rows; i++) {
                int won = rowsWonByTried(net, many);
                if (won > most) {
                    most = won;
                    System.arraycopy(tried, 0, best, 0, MOST_WEARERS);
                }
                advance(net);
            }
            return most;
        }

        private int noteNeeds(Net net, Judge judge, Scene scene) {
            int many = 0;
            for (int row = 0; row < net.rows && many < SMALL; row++) {
                scene.dress(net, row);
                if (judge.weigh(scene, net.n) > 0) {
                    needs[many] = needsOf(net, scene);
                    many++;
                }
            }
            return many;
        }

        private int needsOf(Net net, Scene scene) {
            int bits = 0;
            for (int w = 0; w < net.n; w++) {
                int sum = scene.hats[w];
                for (int seen = 0; seen < net.n; seen++) {
                    sum += (net.looks[w] >> seen & 1) * scene.hats[seen];
                }
                bits |= 1 << (MOST_COLOURS * w + sum % net.q);
            }
            return bits;
        }

        private int rowsWonByTried(Net net, int many) {
            int bits = 0;
            for (int w = 0; w < net.n; w++) {
                bits |= 1 << (MOST_COLOURS * w + tried[w]);
            }
            int won = 0;
            for (int i = 0; i < many; i++) {
                if (wonByRight[Integer.bitCount(needs[i] & bits)]) {
                    won++;
                }
            }
            return won;
        }

        /** The next constants as a row by wearers: the last wearer's moves first. */
        private void advance(Net net) {
            int w = net.n - 1;
            while (w >= 0 && tried[w] == net.q - 1) {
                tried[w] = 0;
                w--;
            }
            if (w >= 0) {
                tried[w]++;
            }
        }

        void settle(Net net) {
            for (int w = 0; w < net.n; w++) {
                net.startTable(w);
                for (int view = 0; view < net.views[w]; view++) {
                    net.setGuess(w, view, Math.floorMod(best[w] - sumOfDigits(view, net.q), net.q));
                }
            }
        }

        private static int sumOfDigits(int view, int q) {
            int sum = 0;
            int rest = view;
            for (int digit = 0; digit < MOST_WEARERS; digit++) {
                sum += rest % q;
                rest /= q;
            }
            return sum;
        }
    }

    /** The fewest rows of two colours that are given up so that each other row is next to one of them. */
    private static final class Cover {
        private static final int MOST_CHOSEN = 7;

        /** How many rows the latest cover gave up; 0: there was none yet. */
        int many = 0;
        final int[] chosen = new int[MOST_CHOSEN];
        private int n = 0;
        /** Of each row, as bits: itself and those unlike it in one hat. */
        private final int[] near = new int[1 << COVERED_WEARERS];
        /** Of each row the greatest one of those. */
        private final int[] greatestNear = new int[1 << COVERED_WEARERS];

        void seek(int wearers) {
            if (n == wearers) {
                return;
            }
            n = wearers;
            noteNear();
            int rows = 1 << n;
            int all = rows == 32 ? -1 : (1 << rows) - 1;
            many = 0;
            boolean found = false;
            while (!found && many < MOST_CHOSEN) {
                many++;
                // Any cover can be turned so that row 0 is in it, so the first one as a row of numbers has it.
                chosen[0] = 0;
                found = choose(this, 1, all & ~near[0]);
            }
        }

        private void noteNear() {
            for (int row = 0; row < 1 << n; row++) {
                near[row] = 1 << row;
                greatestNear[row] = row;
                for (int w = 0; w < n; w++) {
                    int other = row ^ 1 << w;
                    near[row] |= 1 << other;
                    greatestNear[row] = Math.max(greatestNear[row], other);
                }
            }
        }

        /** Whether more rows, each greater than those chosen, can cover the open ones; the first such are chosen. */
        private static boolean choose(Cover cover, int depth, int open) {
            if (open == 0) {
                return true;
            }
            int more = cover.many - depth;
            if (more <= 0 || Integer.bitCount(open) > more * (cover.n + 1)) {
                return false;
            }
            int last = cover.lastUseful(open);
            for (int row = cover.chosen[depth - 1] + 1; row <= last; row++) {
                cover.chosen[depth] = row;
                if (choose(cover, depth + 1, open & ~cover.near[row])) {
                    return true;
                }
            }
            return false;
        }

        /** Behind this row some open one could be covered no more, as rows are chosen upwards. */
        private int lastUseful(int open) {
            int last = (1 << n) - 1;
            for (int row = 0; row < 1 << n; row++) {
                if ((open >>> row & 1) == 1) {
                    last = Math.min(last, greatestNear[row]);
                }
            }
            return last;
        }

        void settle(Net net) {
            net.lookAtAllAtOnce();
            for (int w = 0; w < n; w++) {
                for (int view = 0; view < net.views[w]; view++) {
                    int low = view & (1 << w) - 1;
                    int row = view >> w << w + 1 | low;
                    net.setGuess(w, view, guessBetween(isChosen(row), isChosen(row | 1 << w)));
                }
            }
        }

        private boolean isChosen(int row) {
            for (int i = 0; i < many; i++) {
                if (chosen[i] == row) {
                    return true;
                }
            }
            return false;
        }

        private static int guessBetween(boolean givenByZero, boolean givenByOne) {
            if (givenByZero) {
                return givenByOne ? 0 : 1;
            }
            return givenByOne ? 0 : 2;
        }
    }

    /** Finds the one guess by whose change most more rows are won. */
    private static final class Mender {
        private static final int MOST_GUESSES = MOST_COLOURS + 1;

        /** Of each view of the tables and each guess: how many rows more would be won. */
        private final int[] gains = new int[SMALL * MOST_GUESSES];
        private final Scene played = new Scene();
        private final Scene changed = new Scene();

        /** Asked only if the tables together have no more than SMALL views. */
        boolean mendOne(Net net, Judge judge) {
            Arrays.fill(gains, 0);
            for (int row = 0; row < net.rows; row++) {
                played.play(net, row);
                if (judge.weigh(played, net.n) > 0) {
                    noteGains(net, judge);
                }
            }
            return takeBest(net);
        }

        private void noteGains(Net net, Judge judge) {
            int before = isWon(played, net, judge) ? 1 : 0;
            int base = 0;
            for (int w = 0; w < net.n; w++) {
                if (!net.hasTable(w)) {
                    continue;
                }
                int at = (base + played.viewOf(net, w)) * MOST_GUESSES;
                for (int guess = 0; guess <= net.q; guess++) {
                    changed.copy(played);
                    changed.guessAnew(net, w, guess);
                    gains[at + guess] += (isWon(changed, net, judge) ? 1 : 0) - before;
                }
                base += net.views[w];
            }
        }

        private static boolean isWon(Scene scene, Net net, Judge judge) {
            return judge.isWon(scene.rightOnes(net), scene.wrongOnes(net), net.n);
        }

        private boolean takeBest(Net net) {
            int most = 0;
            int wearer = NONE;
            int best = 0;
            int base = 0;
            for (int w = 0; w < net.n; w++) {
                int end = net.hasTable(w) ? net.views[w] * MOST_GUESSES : 0;
                for (int i = 0; i < end; i++) {
                    if (gains[base + i] > most) {
                        most = gains[base + i];
                        wearer = w;
                        best = i;
                    }
                }
                base += end;
            }
            if (wearer == NONE) {
                return false;
            }
            net.setGuess(wearer, best / MOST_GUESSES, best % MOST_GUESSES);
            return true;
        }
    }
}
