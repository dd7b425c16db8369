/** The examples of README.md. */
public final class ReadmeTest {
    private static final Check check = new Check();

    public static void main(String[] args) {
        HatHall x = new HatHall();
        tables(x);
        finders(x);
        line(x);
        text(x);
        check.end();
    }

    private static void tables(HatHall x) {
        check.yes("tell", x.tell(0, 1, 1));
        check.yes("tell", x.tell(1, 0, 1));
        check.same("won by tables", x.won(1), 4);
    }

    private static void finders(HatHall x) {
        check.yes("hall(3, 3)", x.hall(3, 3));
        check.same("search", x.search(5000), 1);
        check.same("sums", x.sums(), 27);
        check.yes("hall(5, 2)", x.hall(5, 2));
        check.yes("law(2, 1)", x.law(2, 1));
        check.same("cover", x.cover(), 7);
        check.same("given(0)", x.given(0), 0);
        check.missing("given(7)", () -> x.given(7));
        check.same("won by a cover", x.won(1), 25);
        check.yes("keep(0)", x.keep(0));
    }

    private static void line(HatHall x) {
        check.yes("hall(8, 2)", x.hall(8, 2));
        check.yes("law(0, 7)", x.law(0, 7));
        check.same("line", x.line(), 1);
        check.same("won by a line", x.won(1), 256);
        check.yes("take(0)", x.take(0));
        check.yes("law(2, 1)", x.law(2, 1));
        check.same("won by the cover that was kept", x.won(1), 25);
    }

    private static void text(HatHall x) {
        check.same("feed", x.feed(0x77656172, 0x65722030, 0x20677565, 0x73732073, 0x65656e3b), 20);
        check.same("rules", x.rules(20), 0);
        check.same("fault", x.fault(), HatHall.NONE);
        check.same("about(0, 4)", x.about(0, 4), 1);
        check.same("about(1, 4)", x.about(1, 4), 0);
    }
}
