/** Promises 17 and 18, and the price of a MOVE in 11, 12 and 19. */
public final class KeptTest {
    private static final int NONE = -1;
    private static final Due due = new Due("KeptTest");

    public static void main(String[] args) {
        crossOrMove();
        movesWithoutPrice();
        keptInAnotherLayer();
        keptInTwoLayers();
        keptAnew();
        keepWithoutDrawing();
        keepWithoutFlows();
        due.end();
    }

    private static void is(RibbonSetter x, int cost, int crossCost, int moves, int orders) {
        due.is("cost()", x.cost(), cost);
        due.is("part(0)", x.part(0), crossCost);
        due.is("part(2)", x.part(2), moves);
        due.is("orders()", x.orders(), orders);
    }

    /** KEPT is 0 1 / 2 3; the FLOWS want 0 1 / 3 2 or 1 0 / 2 3 now. */
    private static RibbonSetter turnedAbout() {
        RibbonSetter x = new RibbonSetter();
        x.flow(0, 2, 5);
        x.flow(1, 3, 5);
        due.is("keep()", x.keep(), true);
        due.is("about(7)", x.about(7), 1);
        x.clear();
        x.flow(0, 3, 5);
        x.flow(1, 2, 5);
        return x;
    }

    private static void crossOrMove() {
        RibbonSetter x = turnedAbout();
        x.set(4, 10);
        is(x, 10, 0, 1, 2);
        due.layer(x, 0, 0, 1);
        due.layer(x, 1, 3, 2);
        x.set(4, 25);
        is(x, 25, 25, 0, 3);
        due.is("part(1)", x.part(1), 1);
        due.layer(x, 1, 2, 3);
        x.set(4, 26);
        is(x, 25, 25, 0, 1);
        x.set(4, 24);
        is(x, 24, 0, 1, 2);
        x.forget();
        due.is("about(7)", x.about(7), 0);
        is(x, 0, 0, 0, 2);
        due.layer(x, 1, 3, 2);
        x.forget();
        due.is("about(7) again", x.about(7), 0);
    }

    private static void movesWithoutPrice() {
        RibbonSetter x = turnedAbout();
        is(x, 0, 0, 1, 2);
        due.layer(x, 0, 0, 1);
        due.layer(x, 1, 3, 2);
    }

    private static void keptInAnotherLayer() {
        RibbonSetter x = new RibbonSetter();
        x.flow(0, 3, 1);
        x.flow(1, 2, 1);
        due.layer(x, 1, 3, 2);
        x.keep();
        x.clear();
        x.flow(2, 4, 1);
        x.flow(3, 5, 1);
        is(x, 0, 0, 1, 2);
        due.layer(x, 0, 2, 3);
        x.set(4, 1);
        is(x, 0, 0, 0, 1);
        due.layer(x, 0, 3, 2);
        due.layer(x, 1, 5, 4);
    }

    // KEPT is 2 3 / 1 0: 0 and 2 stood in two LAYERS, so nothing is asked of them in one.
    private static void keptInTwoLayers() {
        RibbonSetter x = new RibbonSetter();
        x.flow(2, 1, 1);
        x.flow(3, 0, 1);
        due.layer(x, 0, 2, 3);
        due.layer(x, 1, 1, 0);
        x.keep();
        x.clear();
        x.set(4, 9999);
        x.flow(0, 4, 1);
        x.flow(2, 5, 1);
        is(x, 0, 0, 0, 2);
        due.layer(x, 0, 0, 2);
    }

    private static void keptAnew() {
        RibbonSetter x = turnedAbout();
        x.set(4, 10);
        due.is("keep() anew", x.keep(), true);
        is(x, 0, 0, 0, 1);
        due.layer(x, 1, 3, 2);
        x.clear();
        x.flow(0, 2, 1);
        x.flow(1, 3, 1);
        is(x, 1, 1, 0, 1);
        due.layer(x, 0, 0, 1);
        due.layer(x, 1, 3, 2);
    }

    private static void keepWithoutDrawing() {
        RibbonSetter x = new RibbonSetter();
        for (int p = 1; p <= 6; p++) {
            x.flow(0, p, 1);
        }
        due.is("keep() of six", x.keep(), false);
        due.is("about(7) of none", x.about(7), 0);
        x.clear();
        x.flow(0, 3, 5);
        x.flow(1, 2, 5);
        due.is("keep() of 3 2", x.keep(), true);
        x.clear();
        for (int p = 1; p <= 6; p++) {
            x.flow(0, p, 1);
        }
        due.is("keep() of six behind it", x.keep(), false);
        due.is("about(7) as it was", x.about(7), 1);
        x.clear();
        x.flow(0, 2, 1);
        x.flow(0, 3, 1);
        x.set(4, 1);
        is(x, 0, 0, 0, 1);
        due.layer(x, 1, 3, 2);
    }

    private static void keepWithoutFlows() {
        RibbonSetter x = turnedAbout();
        x.set(4, 9999);
        x.clear();
        due.is("keep() of nothing", x.keep(), true);
        due.is("about(7)", x.about(7), 1);
        x.flow(0, 3, 5);
        x.flow(1, 2, 5);
        is(x, 0, 0, 0, 2);
        due.is("place(9, 0)", x.place(9, 0), NONE);
    }
}
