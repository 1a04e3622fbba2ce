/** Promises 1 to 6 and 10: what is put in, and what is told of it as it stands. */
public final class FlowsTest {
    private static final int NONE = -1;
    private static final int[] FAR = {Integer.MIN_VALUE, -100, -1, 10, 11, 100, Integer.MAX_VALUE};
    private static final Due due = new Due("FlowsTest");

    public static void main(String[] args) {
        newObject();
        flowEdges();
        flowWrong();
        seventeenth();
        clearing();
        setting();
        aboutAll();
        resting();
        due.end();
    }

    private static void newObject() {
        RibbonSetter x = new RibbonSetter();
        int[] want = {0, 0, 0, 0, 0, 4, 0, 0};
        for (int what = 0; what < want.length; what++) {
            due.is("new about(" + what + ")", x.about(what), want[what]);
        }
        for (int a = -1; a <= 10; a++) {
            // A new one each time: an object answers 512 calls.
            x = new RibbonSetter();
            for (int b = -1; b <= 10; b++) {
                due.is("new width", x.width(a, b), 0);
                due.is("new turned", x.turned(a, b), NONE);
                due.is("new point", x.point(a, b, 0, 1), NONE);
            }
            due.is("new row", x.row(a), NONE);
            due.is("new layer", x.layer(a), NONE);
            due.is("new items", x.items(a), NONE);
            due.is("new item", x.item(a, 0), NONE);
            due.is("new place", x.place(a, 0), NONE);
            due.is("new rest", x.rest(a), a >= 0 && a < 10 ? 0 : -10000);
        }
        due.is("new cost()", x.cost(), 0);
        due.is("new orders()", x.orders(), 1);
        due.is("new part(0)", x.part(0), 0);
        due.is("new part(1)", x.part(1), 0);
        due.is("new part(2)", x.part(2), 0);
        due.is("new part(3)", x.part(3), NONE);
        due.is("new part(-1)", x.part(-1), NONE);
    }

    private static void flowEdges() {
        RibbonSetter x = new RibbonSetter();
        due.is("flow(0, 9, 1)", x.flow(0, 9, 1), true);
        due.is("width(0, 9)", x.width(0, 9), 1);
        due.is("width(9, 0)", x.width(9, 0), 0);
        due.is("flow(9, 0, 99)", x.flow(9, 0, 99), true);
        due.is("width(9, 0)", x.width(9, 0), 99);
        due.is("width(0, 9) beside", x.width(0, 9), 1);
        due.is("flow(0, 9, 7) again", x.flow(0, 9, 7), true);
        due.is("width(0, 9) anew", x.width(0, 9), 7);
        due.is("about(0) of two", x.about(0), 2);
        due.is("flow(0, 9, 0)", x.flow(0, 9, 0), true);
        due.is("width(0, 9) gone", x.width(0, 9), 0);
        due.is("turned(0, 9) gone", x.turned(0, 9), NONE);
        due.is("about(0) of one", x.about(0), 1);
        due.is("flow(0, 9, 0) of none", x.flow(0, 9, 0), true);
        due.is("about(0) still one", x.about(0), 1);
    }

    private static void flowWrong() {
        RibbonSetter x = new RibbonSetter();
        x.flow(3, 4, 5);
        for (int p : FAR) {
            due.is("flow from " + p, x.flow(p, 4, 1), false);
            due.is("flow to " + p, x.flow(3, p, 1), false);
            due.is("flow none from " + p, x.flow(p, 4, 0), false);
            due.is("width from " + p, x.width(p, 4), 0);
            due.is("width to " + p, x.width(3, p), 0);
        }
        for (int p = 0; p < 10; p++) {
            due.is("flow to itself " + p, x.flow(p, p, 1), false);
            due.is("no flow to itself " + p, x.flow(p, p, 0), false);
        }
        for (int width : new int[] {Integer.MIN_VALUE, -1, 100, Integer.MAX_VALUE}) {
            due.is("flow of " + width, x.flow(3, 4, width), false);
        }
        due.is("width(3, 4) as it was", x.width(3, 4), 5);
        due.is("about(0) as it was", x.about(0), 1);
        due.is("about(1) as it was", x.about(1), 5);
    }

    private static void seventeenth() {
        RibbonSetter x = new RibbonSetter();
        for (int i = 0; i < 16; i++) {
            due.is("flow " + (i + 1), x.flow(i / 9, 9 - i % 9 == i / 9 ? 0 : 9 - i % 9, i + 1), true);
        }
        due.is("about(0) full", x.about(0), 16);
        due.is("about(1) full", x.about(1), 136);
        due.is("the 17th", x.flow(8, 7, 1), false);
        due.is("width of the 17th", x.width(8, 7), 0);
        due.is("about(0) after the 17th", x.about(0), 16);
        due.is("one of the 16 anew", x.flow(0, 9, 50), true);
        due.is("width(0, 9)", x.width(0, 9), 50);
        due.is("none where none is", x.flow(8, 7, 0), true);
        due.is("one goes", x.flow(0, 9, 0), true);
        due.is("another comes", x.flow(8, 7, 1), true);
        due.is("again the 17th", x.flow(0, 9, 1), false);
    }

    private static void clearing() {
        RibbonSetter x = new RibbonSetter();
        x.clear();
        due.is("clear of nothing", x.about(0), 0);
        x.flow(1, 2, 3);
        x.flow(2, 1, 4);
        x.set(7, 8);
        x.keep();
        x.clear();
        int[] want = {0, 0, 0, 0, 0, 7, 8, 1};
        for (int what = 0; what < want.length; what++) {
            due.is("cleared about(" + what + ")", x.about(what), want[what]);
        }
        due.is("cleared width", x.width(1, 2), 0);
        due.is("cleared turned", x.turned(1, 2), NONE);
        due.is("cleared layer", x.layer(1), NONE);
        due.is("cleared row", x.row(0), NONE);
        due.is("cleared rest", x.rest(1), 0);
        due.is("cleared items", x.items(0), NONE);
        due.is("cleared cost", x.cost(), 0);
        due.is("cleared orders", x.orders(), 1);
        for (int i = 0; i < 16; i++) {
            due.is("flow after clear", x.flow(i / 8, 2 + i % 8, 1), true);
        }
        due.is("the 17th after clear", x.flow(9, 0, 1), false);
    }

    private static void setting() {
        RibbonSetter x = new RibbonSetter();
        int[][] wrong = {{-1, 0}, {51, 0}, {0, -1}, {0, 10000}, {-1, -1}, {51, 10000},
            {Integer.MIN_VALUE, 5}, {Integer.MAX_VALUE, 5}, {5, Integer.MIN_VALUE}, {5, Integer.MAX_VALUE}};
        due.is("set(11, 12)", x.set(11, 12), true);
        for (int[] pair : wrong) {
            due.is("set(" + pair[0] + ", " + pair[1] + ")", x.set(pair[0], pair[1]), false);
            due.is("gap as it was", x.about(5), 11);
            due.is("price as it was", x.about(6), 12);
        }
        due.is("set(0, 0)", x.set(0, 0), true);
        due.is("gap 0", x.about(5), 0);
        due.is("price 0", x.about(6), 0);
        due.is("set(50, 9999)", x.set(50, 9999), true);
        due.is("gap 50", x.about(5), 50);
        due.is("price 9999", x.about(6), 9999);
    }

    private static void aboutAll() {
        RibbonSetter x = new RibbonSetter();
        x.flow(0, 1, 5);
        x.flow(1, 2, 6);
        x.flow(2, 0, 2);
        x.flow(2, 1, 1);
        int[] want = {4, 14, 2, 3, 3, 4, 0, 0};
        for (int what = 0; what < want.length; what++) {
            due.is("about(" + what + ")", x.about(what), want[what]);
        }
        for (int what : new int[] {Integer.MIN_VALUE, -1, 8, 9, Integer.MAX_VALUE}) {
            due.is("about(" + what + ")", x.about(what), NONE);
        }
    }

    private static void resting() {
        RibbonSetter x = new RibbonSetter();
        x.flow(0, 1, 5);
        x.flow(1, 2, 4);
        x.flow(2, 0, 3);
        due.is("rest(0) with what is turned", x.rest(0), -2);
        due.is("rest(1)", x.rest(1), 1);
        due.is("rest(2) with what is turned", x.rest(2), 1);
        due.is("rest(9) not used", x.rest(9), 0);
        for (int p : FAR) {
            due.is("rest(" + p + ")", x.rest(p), -10000);
        }
    }
}
