/** Promises 11, 12, 14 and 19: THE ORDER, its cost, and how many cost as little. */
public final class OrderTest {
    private static final int NONE = -1;
    private static final Due due = new Due("OrderTest");

    public static void main(String[] args) {
        crossingByWidth();
        firstOfSeveral();
        firstInTheNextLayer();
        waysMultiply();
        beadsAreOrdered();
        fiveAndSix();
        sixByBeads();
        eightLayersOfFive();
        wrongArguments();
        due.end();
    }

    private static void parts(RibbonSetter x, int cost, int crossCost, int pairs, int moves) {
        due.is("cost()", x.cost(), cost);
        due.is("part(0)", x.part(0), crossCost);
        due.is("part(1)", x.part(1), pairs);
        due.is("part(2)", x.part(2), moves);
    }

    // Of all from 0, 1 to 2, 3 one pair must cross: the one with the lesser product.
    private static void crossingByWidth() {
        RibbonSetter x = new RibbonSetter();
        x.flow(0, 2, 2);
        x.flow(0, 3, 9);
        x.flow(1, 2, 9);
        x.flow(1, 3, 3);
        parts(x, 6, 6, 1, 0);
        due.layer(x, 0, 0, 1);
        due.layer(x, 1, 3, 2);
        due.is("orders()", x.orders(), 2);
        x.flow(0, 2, 99);
        parts(x, 81, 81, 1, 0);
        due.layer(x, 1, 2, 3);
        x.flow(1, 3, 0);
        parts(x, 0, 0, 0, 0);
        due.is("orders() without a cross", x.orders(), 2);
    }

    // 0 to 3, 1 to 2: no cross in 0 1 / 3 2 and in 1 0 / 2 3; the first has 0 ahead.
    private static void firstOfSeveral() {
        RibbonSetter x = new RibbonSetter();
        x.flow(0, 3, 1);
        x.flow(1, 2, 1);
        due.layer(x, 0, 0, 1);
        due.layer(x, 1, 3, 2);
        due.is("orders()", x.orders(), 2);
        x.flow(4, 5, 1);
        due.layer(x, 0, 0, 1, 4);
        due.layer(x, 1, 3, 2, 5);
        due.is("orders() of three pairs", x.orders(), 6);
    }

    // What comes from 0 is above what comes from 1; within each the lesser is first.
    private static void firstInTheNextLayer() {
        RibbonSetter x = new RibbonSetter();
        x.flow(0, 4, 1);
        x.flow(0, 5, 1);
        x.flow(1, 2, 1);
        x.flow(1, 3, 1);
        due.layer(x, 0, 0, 1);
        due.layer(x, 1, 4, 5, 2, 3);
        due.is("orders() of two and two", x.orders(), 8);
        x.clear();
        x.flow(0, 3, 1);
        x.flow(0, 4, 1);
        x.flow(0, 5, 1);
        x.flow(1, 2, 1);
        due.layer(x, 1, 3, 4, 5, 2);
        due.is("orders() of three and one", x.orders(), 12);
        x.flow(1, 6, 1);
        due.layer(x, 1, 3, 4, 5, 2, 6);
        due.is("orders() of three and two", x.orders(), 24);
    }

    // Six orders beside 1, and two behind it, in each of these.
    private static void waysMultiply() {
        RibbonSetter x = new RibbonSetter();
        x.flow(0, 1, 1);
        x.flow(0, 2, 1);
        x.flow(0, 3, 1);
        x.flow(1, 4, 1);
        x.flow(1, 5, 1);
        due.is("cost()", x.cost(), 0);
        due.is("orders()", x.orders(), 12);
        x.flow(4, 6, 1);
        x.flow(4, 7, 1);
        x.flow(4, 8, 1);
        due.is("orders() with six more", x.orders(), 72);
    }

    // A BEAD in each LAYER between, that crosses where its LINKS do.
    private static void beadsAreOrdered() {
        RibbonSetter x = new RibbonSetter();
        x.flow(0, 1, 1);
        x.flow(1, 2, 1);
        x.flow(2, 3, 1);
        x.flow(0, 3, 5);
        due.layer(x, 0, 0);
        due.layer(x, 1, 1, 103);
        due.layer(x, 2, 2, 103);
        due.layer(x, 3, 3);
        parts(x, 0, 0, 0, 0);
        due.is("orders()", x.orders(), 2);
        x.flow(9, 2, 4);
        x.flow(0, 9, 4);
        due.layer(x, 1, 1, 9, 103);
        due.is("orders() with 9", x.orders(), 4);
        x.flow(8, 1, 7);
        due.layer(x, 0, 0, 8);
        due.layer(x, 1, 103, 9, 1);
        due.layer(x, 2, 103, 2);
        due.is("orders() with 8", x.orders(), 2);
        parts(x, 0, 0, 0, 0);
    }

    private static void fiveAndSix() {
        RibbonSetter x = new RibbonSetter();
        for (int p = 1; p <= 5; p++) {
            x.flow(0, p, 1);
        }
        due.is("cost() of five", x.cost(), 0);
        due.is("orders() of five", x.orders(), 120);
        due.layer(x, 1, 1, 2, 3, 4, 5);
        x.flow(0, 6, 1);
        due.is("cost() of six", x.cost(), NONE);
        due.is("orders() of six", x.orders(), NONE);
        due.is("items(1) of six", x.items(1), 6);
        due.is("item(0, 0) of six", x.item(0, 0), NONE);
        due.is("item(1, 0) of six", x.item(1, 0), NONE);
        for (int what = -1; what <= 3; what++) {
            due.is("part of six", x.part(what), NONE);
        }
        x.flow(0, 6, 0);
        due.is("cost() of five again", x.cost(), 0);
    }

    // 0 1 2 is a chain; beside 1 stand the BEADS of 0 to 2 and 7 to 2, and 3 and 4. What comes
    // from 7 crosses nothing in any order of its own, so the lesser numbers are first there.
    private static void sixByBeads() {
        RibbonSetter x = new RibbonSetter();
        x.flow(0, 1, 1);
        x.flow(1, 2, 1);
        x.flow(0, 2, 1);
        x.flow(7, 2, 1);
        x.flow(7, 3, 1);
        x.flow(7, 4, 1);
        due.layer(x, 1, 1, 102, 3, 4, 172);
        due.is("cost()", x.cost(), 0);
        x.flow(0, 5, 1);
        due.is("items(1)", x.items(1), 6);
        due.is("cost() of six", x.cost(), NONE);
    }

    // The dearest drawing: ten LAYERS, eight of them with a PLACE and four BEADS.
    private static void eightLayersOfFive() {
        RibbonSetter x = new RibbonSetter();
        for (int p = 0; p < 9; p++) {
            x.flow(p, p + 1, 1);
        }
        int[][] longOnes = {{0, 9}, {0, 4}, {3, 9}, {0, 5}, {4, 9}, {0, 6}, {5, 9}};
        for (int[] flow : longOnes) {
            due.is("flow", x.flow(flow[0], flow[1], 2), true);
        }
        due.is("about(0)", x.about(0), 16);
        due.is("about(4)", x.about(4), 10);
        for (int l = 1; l <= 8; l++) {
            due.is("items(" + l + ")", x.items(l), 5);
        }
        due.is("cost()", x.cost(), x.part(0));
        due.is("first item", x.item(0, 0), 0);
        due.is("last item", x.item(9, 0), 9);
        due.is("behind the last layer", x.item(10, 0), NONE);
    }

    private static void wrongArguments() {
        RibbonSetter x = new RibbonSetter();
        x.flow(0, 1, 1);
        for (int far : new int[] {Integer.MIN_VALUE, -1, 2, 10, Integer.MAX_VALUE}) {
            due.is("item(" + far + ", 0)", x.item(far, 0), NONE);
            due.is("item(0, " + far + ")", x.item(0, far), NONE);
            due.is("part(" + (far == 2 ? 3 : far) + ")", x.part(far == 2 ? 3 : far), NONE);
        }
    }
}
