/** Counts the answers of one test, prints those that are not as due, and ends the run. */
final class Due {
    private final String test;
    private String sentence = "";
    private int asked = 0;
    private int wrong = 0;

    Due(String test) {
        this.test = test;
    }

    /** The document's words that the next answers hold to; they stand with each that is wrong. */
    void sentence(String words) {
        sentence = " \"" + words + "\"";
    }

    void is(String call, int got, int want) {
        asked++;
        if (got != want) {
            wrong++;
            System.out.println(test + sentence + ": " + call + " answered " + got + ", due is " + want);
        }
    }

    void is(String call, boolean got, boolean want) {
        is(call, got ? 1 : 0, want ? 1 : 0);
    }

    void is(String call, String got, String want) {
        asked++;
        if (!got.equals(want)) {
            wrong++;
            System.out.println(test + sentence + ": " + call + " told\n" + got + "due is\n" + want);
        }
    }

    void row(RibbonSetter x, int... places) {
        for (int i = 0; i < places.length; i++) {
            is("row(" + i + ")", x.row(i), places[i]);
        }
        is("row behind the last", x.row(places.length), RibbonSetter.NONE);
    }

    void layer(RibbonSetter x, int l, int... items) {
        is("items(" + l + ")", x.items(l), items.length);
        for (int i = 0; i < items.length; i++) {
            is("item(" + l + ", " + i + ")", x.item(l, i), items[i]);
        }
        is("item behind the last", x.item(l, items.length), RibbonSetter.NONE);
    }

    void place(RibbonSetter x, int p, int top, int low) {
        is("place(" + p + ", 0)", x.place(p, 0), top);
        is("place(" + p + ", 1)", x.place(p, 1), low);
    }

    void point(RibbonSetter x, int a, int b, int l, int end, int begin) {
        is("point(" + a + ", " + b + ", " + l + ", 0)", x.point(a, b, l, 0), end);
        is("point(" + a + ", " + b + ", " + l + ", 1)", x.point(a, b, l, 1), begin);
    }

    boolean failed() {
        return wrong > 0;
    }

    void end() {
        System.out.println(test + ": " + asked + " answers, " + wrong + " not as due");
        if (wrong > 0) {
            System.exit(1);
        }
    }
}
