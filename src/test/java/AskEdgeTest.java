/** The edges of what an object is asked (promises 5 to 16 and 19), one method for each sentence. */
public final class AskEdgeTest {
    private static final int NONE = -1;
    private static final int[] NO_PLACES = {Integer.MIN_VALUE, -10, -1, 10, 11, 100, Integer.MAX_VALUE};
    private static final int[] FAR = {Integer.MIN_VALUE, -2, -1, 10, 11, 100, Integer.MAX_VALUE};
    private static final Due due = new Due("AskEdgeTest");

    public static void main(String[] args) {
        aboutWithoutFlows();
        aboutTheMost();
        aboutLayersWithoutDrawing();
        aboutAnotherWhat();
        widthOfNone();
        turnedOfNone();
        rowOfNoneSuch();
        layerNotUsed();
        layerOfNone();
        restOfNoneSuch();
        restNotUsed();
        costWithoutDrawing();
        costWithoutFlows();
        partsOfTheCost();
        partWithoutDrawing();
        partOfAnotherWhat();
        itemsOfNoneSuch();
        itemsWithoutDrawing();
        itemWithoutDrawing();
        itemOfNoneSuch();
        placeWithoutDrawing();
        placeNotUsed();
        placeOfAnotherWhat();
        pointAtFirstAndLast();
        pointWithoutDrawing();
        pointOfNoSuchFlow();
        pointOfTurned();
        pointInAnotherLayer();
        pointOfAnotherWhat();
        ordersOfOneAndNone();
        ordersOfMany();
        ordersWithoutDrawing();
        due.end();
    }

    private static RibbonSetter with(int... flows) {
        return Told.with(flows);
    }

    /** Six PLACES in LAYER 1, one in LAYER 0 and in LAYER 2: there is no DRAWING. */
    private static RibbonSetter notDrawn() {
        return with(0, 1, 1, 0, 2, 1, 0, 3, 1, 0, 4, 1, 0, 5, 1, 0, 6, 1, 6, 7, 2, 7, 0, 1);
    }

    private static void aboutWithoutFlows() {
        due.sentence("about(): 4 LAYERS (0 without FLOWS)");
        RibbonSetter x = new RibbonSetter();
        due.is("about(4)", x.about(4), 0);
        x.flow(3, 4, 1);
        due.is("about(4) of one FLOW", x.about(4), 2);
        x.flow(3, 4, 0);
        due.is("about(4) of none left", x.about(4), 0);
        x.flow(3, 4, 1);
        x.clear();
        due.is("about(4) behind clear()", x.about(4), 0);
        for (int what = 0; what <= 3; what++) {
            due.is("about(" + what + ")", x.about(what), 0);
        }
    }

    // Eight pairs of places, each both ways, 99 and 98 wide: eight are TURNED.
    private static void aboutTheMost() {
        due.sentence("about(): 0 how many FLOWS, 1 the sum of their WIDTHS, 2 how many are TURNED, 3 the sum of theirs");
        RibbonSetter x = new RibbonSetter();
        for (int p = 0; p < 8; p++) {
            x.flow(p, p + 1, 99);
            x.flow(p + 1, p, 98);
        }
        int[] want = {16, 8 * 99 + 8 * 98, 8, 8 * 98, 9, 4, 0, 0};
        for (int what = 0; what < want.length; what++) {
            due.is("about(" + what + ")", x.about(what), want[what]);
        }
        x.set(50, 9999);
        x.keep();
        due.is("about(5)", x.about(5), 50);
        due.is("about(6)", x.about(6), 9999);
        due.is("about(7)", x.about(7), 1);
    }

    private static void aboutLayersWithoutDrawing() {
        due.sentence("about(): What 0 .. 7 (where there is no DRAWING too)");
        RibbonSetter x = notDrawn();
        int[] want = {8, 9, 1, 1, 3, 4, 0, 0};
        for (int what = 0; what < want.length; what++) {
            due.is("about(" + what + ")", x.about(what), want[what]);
        }
    }

    private static void aboutAnotherWhat() {
        due.sentence("about(): NONE for another what");
        for (int what : new int[] {Integer.MIN_VALUE, -8, -1, 8, 9, 16, Integer.MAX_VALUE}) {
            due.is("about(" + what + ")", with(0, 1, 5).about(what), NONE);
            due.is("about(" + what + ") of nothing", new RibbonSetter().about(what), NONE);
        }
    }

    private static void widthOfNone() {
        due.sentence("width(): 0 if there is none");
        RibbonSetter x = with(1, 2, 7, 9, 0, 8);
        due.is("width(1, 2)", x.width(1, 2), 7);
        due.is("width(9, 0)", x.width(9, 0), 8);
        due.is("width(2, 1)", x.width(2, 1), 0);
        due.is("width(0, 9)", x.width(0, 9), 0);
        due.is("width(1, 1)", x.width(1, 1), 0);
        due.is("width(0, 12)", x.width(0, 12), 0);
        due.is("width(2, -8)", x.width(2, -8), 0);
        for (int p : NO_PLACES) {
            due.is("width(" + p + ", 2)", x.width(p, 2), 0);
            due.is("width(1, " + p + ")", x.width(1, p), 0);
            due.is("width(" + p + ", " + p + ")", x.width(p, p), 0);
        }
        x.flow(1, 2, 0);
        due.is("width(1, 2) that is gone", x.width(1, 2), 0);
    }

    private static void turnedOfNone() {
        due.sentence("turned(): 1, 0; NONE if there is none");
        RibbonSetter x = with(0, 1, 5, 1, 2, 4, 2, 0, 3);
        due.is("turned(0, 1)", x.turned(0, 1), 0);
        due.is("turned(2, 0)", x.turned(2, 0), 1);
        due.is("turned(1, 0)", x.turned(1, 0), NONE);
        due.is("turned(0, 2)", x.turned(0, 2), NONE);
        due.is("turned(0, 0)", x.turned(0, 0), NONE);
        due.is("turned(8, 9)", x.turned(8, 9), NONE);
        for (int p : NO_PLACES) {
            due.is("turned(" + p + ", 1)", x.turned(p, 1), NONE);
            due.is("turned(0, " + p + ")", x.turned(0, p), NONE);
            due.is("turned(" + p + ", " + p + ")", x.turned(p, p), NONE);
        }
        due.is("turned(7, 0) where there is no DRAWING", notDrawn().turned(7, 0), 1);
    }

    private static void rowOfNoneSuch() {
        due.sentence("row(): NONE if there is none such");
        RibbonSetter x = with(5, 4, 1);
        due.is("row(0)", x.row(0), 5);
        due.is("row(1)", x.row(1), 4);
        due.is("row(2)", x.row(2), NONE);
        due.is("row(9)", x.row(9), NONE);
        due.is("row(0) of nothing", new RibbonSetter().row(0), NONE);
        RibbonSetter all = with(0, 1, 1, 2, 3, 1, 4, 5, 1, 6, 7, 1, 8, 9, 1);
        due.is("row(9) of ten", all.row(9), 9);
        for (int i : FAR) {
            due.is("row(" + i + ")", x.row(i), NONE);
            due.is("row(" + i + ") of ten", all.row(i), NONE);
        }
        all.flow(8, 9, 0);
        due.is("row(7) of eight", all.row(7), 7);
        due.is("row(8) of eight", all.row(8), NONE);
        due.is("row(7) where there is no DRAWING", notDrawn().row(7), 7);
        due.is("row(8) where there is no DRAWING", notDrawn().row(8), NONE);
    }

    private static void layerNotUsed() {
        due.sentence("layer(): NONE if it is not USED");
        RibbonSetter x = with(9, 0, 1);
        due.is("layer(9)", x.layer(9), 0);
        due.is("layer(0)", x.layer(0), 1);
        for (int p = 1; p <= 8; p++) {
            due.is("layer(" + p + ")", x.layer(p), NONE);
        }
        x.clear();
        due.is("layer(9) without FLOWS", x.layer(9), NONE);
        due.is("layer(7) where there is no DRAWING", notDrawn().layer(7), 2);
        due.is("layer(8) where there is no DRAWING", notDrawn().layer(8), NONE);
    }

    private static void layerOfNone() {
        due.sentence("layer(): NONE if it is .. none");
        for (int p : NO_PLACES) {
            due.is("layer(" + p + ")", with(9, 0, 1).layer(p), NONE);
        }
    }

    private static void restOfNoneSuch() {
        due.sentence("rest(): NONE - 9999 if there is none such");
        for (int p : NO_PLACES) {
            due.is("rest(" + p + ")", with(0, 9, 1).rest(p), -10000);
            due.is("rest(" + p + ") of nothing", new RibbonSetter().rest(p), -10000);
        }
        due.is("rest(0) that is like NONE", with(0, 9, 1).rest(0), -1);
        due.is("rest(9)", with(0, 9, 1).rest(9), 1);
    }

    private static void restNotUsed() {
        due.sentence("rest(): The REST of a PLACE (also of one that is not USED)");
        due.is("rest(5)", with(0, 9, 1).rest(5), 0);
        due.is("rest(0) of nothing", new RibbonSetter().rest(0), 0);
        due.is("rest(0) of as much", with(0, 1, 7, 1, 0, 7).rest(0), 0);
        due.is("rest(0) where there is no DRAWING", notDrawn().rest(0), -5);
    }

    private static void costWithoutDrawing() {
        due.sentence("cost(): NONE if there is no DRAWING");
        RibbonSetter x = notDrawn();
        due.is("cost()", x.cost(), NONE);
        x.flow(0, 1, 0);
        due.is("cost() of five", x.cost(), 0);
        x.flow(0, 1, 1);
        due.is("cost() of six again", x.cost(), NONE);
    }

    private static void costWithoutFlows() {
        due.sentence("cost(): (Without FLOWS: 0.)");
        due.is("cost() of a new object", new RibbonSetter().cost(), 0);
        RibbonSetter x = with(0, 2, 9, 0, 3, 9, 1, 2, 9, 1, 3, 9);
        due.is("cost()", x.cost(), 81);
        x.clear();
        due.is("cost() behind clear()", x.cost(), 0);
        x.flow(0, 1, 99);
        due.is("cost() of one FLOW", x.cost(), 0);
    }

    // KEPT is 0 1 / 2 3. Now a cross costs 20, and that 0 and 1 MOVE, or 2 and 3, costs 21 or 19.
    private static void partsOfTheCost() {
        due.sentence("part(): Of it what CROSSES costs (what 0), how many pairs CROSS (1), how many MOVE (2)");
        RibbonSetter x = with(0, 2, 1, 1, 3, 1);
        x.keep();
        x.clear();
        Told.add(x, 0, 3, 4, 1, 2, 5);
        x.set(4, 21);
        parts(x, 20, 20, 1, 0);
        x.set(4, 19);
        parts(x, 19, 0, 0, 1);
        x.set(4, 0);
        parts(x, 0, 0, 0, 1);
        x.forget();
        parts(x, 0, 0, 0, 0);
        x.clear();
        parts(x, 0, 0, 0, 0);
        parts(new RibbonSetter(), 0, 0, 0, 0);
    }

    private static void parts(RibbonSetter x, int cost, int crossCost, int pairs, int moves) {
        due.is("cost()", x.cost(), cost);
        due.is("part(0)", x.part(0), crossCost);
        due.is("part(1)", x.part(1), pairs);
        due.is("part(2)", x.part(2), moves);
    }

    private static void partWithoutDrawing() {
        due.sentence("part(): NONE likewise");
        for (int what = 0; what <= 2; what++) {
            due.is("part(" + what + ")", notDrawn().part(what), NONE);
        }
    }

    private static void partOfAnotherWhat() {
        due.sentence("part(): NONE .. for another what");
        for (int what : new int[] {Integer.MIN_VALUE, -3, -1, 3, 4, Integer.MAX_VALUE}) {
            due.is("part(" + what + ")", with(0, 1, 1).part(what), NONE);
            due.is("part(" + what + ") of nothing", new RibbonSetter().part(what), NONE);
            due.is("part(" + what + ") of six", notDrawn().part(what), NONE);
        }
    }

    private static void itemsOfNoneSuch() {
        due.sentence("items(): NONE if there is none such");
        RibbonSetter x = with(0, 1, 1, 1, 2, 1, 0, 2, 1);
        due.is("items(0)", x.items(0), 1);
        due.is("items(1)", x.items(1), 2);
        due.is("items(2)", x.items(2), 1);
        due.is("items(3)", x.items(3), NONE);
        due.is("items(9)", x.items(9), NONE);
        for (int l : FAR) {
            due.is("items(" + l + ")", x.items(l), NONE);
            due.is("items(" + l + ") of nothing", new RibbonSetter().items(l), NONE);
        }
        due.is("items(0) of nothing", new RibbonSetter().items(0), NONE);
        x.flow(1, 2, 0);
        due.is("items(1) of two LAYERS", x.items(1), 2);
        due.is("items(2) of two LAYERS", x.items(2), NONE);
    }

    // Nine PLACES in one LAYER; and twelve BEADS beside one PLACE.
    private static void itemsWithoutDrawing() {
        due.sentence("items(): (also where there is no DRAWING it is told)");
        due.is("items(0)", notDrawn().items(0), 1);
        due.is("items(1)", notDrawn().items(1), 6);
        due.is("items(2)", notDrawn().items(2), 1);
        due.is("items(3)", notDrawn().items(3), NONE);
        due.is("items(-1)", notDrawn().items(-1), NONE);
        RibbonSetter x = new RibbonSetter();
        for (int p = 1; p < 10; p++) {
            x.flow(0, p, 1);
        }
        due.is("items(1) of nine", x.items(1), 9);
        x = with(0, 1, 1, 1, 2, 1, 1, 3, 1);
        for (int p = 4; p < 10; p++) {
            x.flow(p, 2, 1);
            x.flow(p, 3, 1);
        }
        due.is("items(0) of seven", x.items(0), 7);
        due.is("items(1) of a PLACE and twelve BEADS", x.items(1), 13);
        due.is("items(2)", x.items(2), 2);
    }

    private static void itemWithoutDrawing() {
        due.sentence("item(): NONE if there is no DRAWING");
        for (int l = -1; l <= 3; l++) {
            for (int i = -1; i <= 6; i++) {
                due.is("item(" + l + ", " + i + ")", notDrawn().item(l, i), NONE);
            }
        }
    }

    private static void itemOfNoneSuch() {
        due.sentence("item(): NONE if .. none such");
        RibbonSetter x = with(0, 1, 1, 0, 2, 1, 0, 3, 1, 0, 4, 1, 0, 5, 1);
        due.is("item(0, 0)", x.item(0, 0), 0);
        due.is("item(0, 1)", x.item(0, 1), NONE);
        due.is("item(1, 0)", x.item(1, 0), 1);
        due.is("item(1, 4)", x.item(1, 4), 5);
        due.is("item(1, 5)", x.item(1, 5), NONE);
        due.is("item(2, 0)", x.item(2, 0), NONE);
        for (int far : FAR) {
            due.is("item(" + far + ", 0)", x.item(far, 0), NONE);
            due.is("item(0, " + far + ")", x.item(0, far), NONE);
            due.is("item(1, " + far + ")", x.item(1, far), NONE);
            due.is("item(" + far + ", " + far + ")", x.item(far, far), NONE);
        }
        due.is("item(0, 0) of nothing", new RibbonSetter().item(0, 0), NONE);
    }

    private static void placeWithoutDrawing() {
        due.sentence("place(): NONE if there is no DRAWING");
        for (int p = 0; p < 10; p++) {
            due.is("place(" + p + ", 0)", notDrawn().place(p, 0), NONE);
            due.is("place(" + p + ", 1)", notDrawn().place(p, 1), NONE);
        }
    }

    private static void placeNotUsed() {
        due.sentence("place(): NONE if .. it is not USED");
        RibbonSetter x = with(0, 9, 5);
        for (int p = 0; p < 10; p++) {
            boolean used = p == 0 || p == 9;
            due.is("place(" + p + ", 0)", x.place(p, 0), used ? 0 : NONE);
            due.is("place(" + p + ", 1)", x.place(p, 1), used ? 5 : NONE);
        }
        for (int p : NO_PLACES) {
            due.is("place(" + p + ", 0)", x.place(p, 0), NONE);
            due.is("place(" + p + ", 1)", x.place(p, 1), NONE);
        }
        // The number of a BEAD is no PLACE.
        x = with(0, 1, 5, 1, 2, 5, 0, 2, 5);
        due.is("item(1, 1)", x.item(1, 1), 102);
        due.is("place(102, 0)", x.place(102, 0), NONE);
        x.clear();
        due.is("place(0, 1) without FLOWS", x.place(0, 1), NONE);
    }

    private static void placeOfAnotherWhat() {
        due.sentence("place(): NONE if .. another what");
        RibbonSetter x = with(0, 9, 5);
        for (int what : new int[] {Integer.MIN_VALUE, -2, -1, 2, 3, Integer.MAX_VALUE}) {
            due.is("place(0, " + what + ")", x.place(0, what), NONE);
            due.is("place(5, " + what + ")", x.place(5, what), NONE);
        }
    }

    /** A chain of five; beside it 1 to 3, with a BEAD in LAYER 2, and 4 to 0, which is TURNED. */
    private static RibbonSetter fromOneToThree() {
        return with(0, 1, 2, 1, 2, 2, 2, 3, 2, 3, 4, 2, 1, 3, 1, 4, 0, 1);
    }

    private static void pointAtFirstAndLast() {
        due.sentence("point(): (at its first LAYER: NONE) .. (at its last one: NONE)");
        RibbonSetter x = fromOneToThree();
        due.is("point(1, 3, 1, 0)", x.point(1, 3, 1, 0), NONE);
        due.is("point(1, 3, 1, 1)", x.point(1, 3, 1, 1), 2);
        due.is("point(1, 3, 2, 0)", x.point(1, 3, 2, 0), 6);
        due.is("point(1, 3, 2, 1)", x.point(1, 3, 2, 1), 6);
        due.is("point(1, 3, 3, 0)", x.point(1, 3, 3, 0), 2);
        due.is("point(1, 3, 3, 1)", x.point(1, 3, 3, 1), NONE);
        due.is("point(0, 1, 0, 0)", x.point(0, 1, 0, 0), NONE);
        due.is("point(0, 1, 0, 1)", x.point(0, 1, 0, 1), 0);
        due.is("point(3, 4, 4, 0)", x.point(3, 4, 4, 0), 0);
        due.is("point(3, 4, 4, 1)", x.point(3, 4, 4, 1), NONE);
    }

    private static void pointWithoutDrawing() {
        due.sentence("point(): NONE if there is no DRAWING");
        for (int l = 0; l <= 2; l++) {
            for (int what = 0; what <= 1; what++) {
                due.is("point(0, 1, " + l + ", " + what + ")", notDrawn().point(0, 1, l, what), NONE);
                due.is("point(6, 7, " + l + ", " + what + ")", notDrawn().point(6, 7, l, what), NONE);
            }
        }
    }

    private static void pointOfNoSuchFlow() {
        due.sentence("point(): NONE if .. no such FLOW");
        RibbonSetter x = fromOneToThree();
        for (int what = 0; what <= 1; what++) {
            due.is("point(0, 2, 1, " + what + ")", x.point(0, 2, 1, what), NONE);
            due.is("point(3, 1, 2, " + what + ")", x.point(3, 1, 2, what), NONE);
            due.is("point(1, 1, 1, " + what + ")", x.point(1, 1, 1, what), NONE);
            due.is("point(8, 9, 0, " + what + ")", x.point(8, 9, 0, what), NONE);
            due.is("point(0, 13, 2, " + what + ")", x.point(0, 13, 2, what), NONE);
            for (int p : NO_PLACES) {
                due.is("point(" + p + ", 3, 2, " + what + ")", x.point(p, 3, 2, what), NONE);
                due.is("point(1, " + p + ", 2, " + what + ")", x.point(1, p, 2, what), NONE);
            }
        }
        x.flow(1, 3, 0);
        due.is("point(1, 3, 2, 0) of one that is gone", x.point(1, 3, 2, 0), NONE);
        due.is("point(0, 1, 0, 1) of nothing", new RibbonSetter().point(0, 1, 0, 1), NONE);
    }

    private static void pointOfTurned() {
        due.sentence("point(): NONE if .. it is TURNED");
        RibbonSetter x = fromOneToThree();
        due.is("turned(4, 0)", x.turned(4, 0), 1);
        for (int l = 0; l <= 4; l++) {
            due.is("point(4, 0, " + l + ", 0)", x.point(4, 0, l, 0), NONE);
            due.is("point(4, 0, " + l + ", 1)", x.point(4, 0, l, 1), NONE);
        }
        x.flow(4, 0, 99);
        due.is("turned(4, 0) no more", x.turned(4, 0), 0);
        due.is("turned(0, 1) for it", x.turned(0, 1), 1);
        due.is("point(4, 0, 3, 1) no more", x.point(4, 0, 3, 1), 0);
        due.is("point(4, 0, 4, 0) no more", x.point(4, 0, 4, 0), 0);
        due.is("point(0, 1, 0, 1) for it", x.point(0, 1, 0, 1), NONE);
    }

    private static void pointInAnotherLayer() {
        due.sentence("point(): NONE if .. it is not in that LAYER");
        RibbonSetter x = fromOneToThree();
        for (int what = 0; what <= 1; what++) {
            due.is("point(1, 3, 0, " + what + ")", x.point(1, 3, 0, what), NONE);
            due.is("point(1, 3, 4, " + what + ")", x.point(1, 3, 4, what), NONE);
            due.is("point(3, 4, 5, " + what + ")", x.point(3, 4, 5, what), NONE);
            for (int l : FAR) {
                due.is("point(0, 1, " + l + ", " + what + ")", x.point(0, 1, l, what), NONE);
                due.is("point(3, 4, " + l + ", " + what + ")", x.point(3, 4, l, what), NONE);
            }
        }
    }

    private static void pointOfAnotherWhat() {
        due.sentence("point(): NONE if .. another what");
        RibbonSetter x = fromOneToThree();
        for (int what : new int[] {Integer.MIN_VALUE, -2, -1, 2, 3, Integer.MAX_VALUE}) {
            for (int l = 1; l <= 3; l++) {
                due.is("point(1, 3, " + l + ", " + what + ")", x.point(1, 3, l, what), NONE);
            }
        }
    }

    private static void ordersOfOneAndNone() {
        due.sentence("orders(): How many ORDERS there are with the cost of THE ORDER");
        due.is("orders() of nothing", new RibbonSetter().orders(), 1);
        due.is("orders() of one FLOW", with(0, 1, 1).orders(), 1);
        due.is("orders() of two", with(0, 1, 1, 0, 2, 1).orders(), 2);
        due.is("orders() of one that is best", with(0, 1, 1, 1, 2, 1).orders(), 1);
        due.is("orders() of a best and its mirror", with(0, 2, 9, 1, 3, 9, 0, 3, 1).orders(), 2);
    }

    // "(an int; it wraps)": no FLOWS are known that come near to a wrap; by searches from many
    // seeds some 12,600 is the most. These counts are known by reason: all to all costs the same in
    // any order, and so does a star; 5! times 3!, 4! times 4!, 5! times 4!.
    private static void ordersOfMany() {
        due.sentence("orders(): (an int; it wraps)");
        RibbonSetter x = new RibbonSetter();
        for (int i = 0; i < 15; i++) {
            x.flow(i % 5, 5 + i / 5, 3);
        }
        due.is("orders() of five to three", x.orders(), 720);
        x.clear();
        for (int i = 0; i < 16; i++) {
            x.flow(i % 4, 4 + i / 4, 3);
        }
        due.is("orders() of four to four", x.orders(), 576);
        x.clear();
        for (int p = 0; p < 5; p++) {
            x.flow(p, 5, 1);
        }
        for (int p = 6; p < 10; p++) {
            x.flow(5, p, 1);
        }
        due.is("orders() of five to one to four", x.orders(), 2880);
    }

    private static void ordersWithoutDrawing() {
        due.sentence("orders(): NONE if there is no DRAWING");
        RibbonSetter x = notDrawn();
        due.is("orders()", x.orders(), NONE);
        x.flow(0, 1, 0);
        due.is("orders() of five", x.orders(), 120);
    }
}
