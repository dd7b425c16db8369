/** All that a hall answers, as one text: two halls with the same picture can't be told apart by what it asks. */
final class Picture {
    private final HatHall x;
    private final StringBuilder text = new StringBuilder();

    private Picture(HatHall x) {
        this.x = x;
    }

    interface Question {
        long ask();
    }

    /** What is at hand, and then what each slot keeps: the hall is left with the last one at hand. */
    static String of(HatHall x) {
        Picture picture = new Picture(x);
        picture.atHand();
        for (int slot = 0; slot < 4; slot++) {
            picture.note("take " + slot, x.take(slot) ? 1 : 0);
            picture.atHand();
        }
        return picture.text.toString();
    }

    private void atHand() {
        for (int what = 0; what < 7; what++) {
            note("count " + what, x.count(what));
        }
        note("fault", x.fault());
        note("steps", x.steps());
        for (int what = 0; what < 4; what++) {
            note("won " + what, x.won(what));
        }
        for (int w = 0; w < x.count(0); w++) {
            wearer(w);
        }
        for (int row = 0; row < Math.min(9, x.count(2)); row++) {
            note("right in " + row, x.row(row, 0));
            note("wrong in " + row, x.row(row, 1));
        }
        for (int i = 0; i < 3; i++) {
            int at = i;
            ask("given " + i, () -> x.given(at));
        }
    }

    private void wearer(int w) {
        for (int what = 0; what < 5; what++) {
            note("about " + w + ", " + what, x.about(w, what));
        }
        for (int view = 0; view < Math.min(9, x.about(w, 3)); view++) {
            int at = view;
            ask("cell " + w + ", " + view, () -> x.cell(w, at));
        }
        ask("constant " + w, () -> x.constant(w));
    }

    private void ask(String what, Question question) {
        String answer;
        try {
            answer = Long.toString(question.ask());
        } catch (RuntimeException e) {
            answer = e.getClass().getSimpleName();
        }
        text.append(what).append(": ").append(answer).append('\n');
    }

    private void note(String what, long answer) {
        text.append(what).append(": ").append(answer).append('\n');
    }
}
