/** The edges that the document's Terms name, one method for each sentence. */
public final class TermsEdgeTest {
    private static final int NONE = -1;
    private static final Due due = new Due("TermsEdgeTest");

    public static void main(String[] args) {
        callsOfAnObject();
        placesNoughtToNine();
        fromOnePlaceToAnother();
        widthsOneToNinetyNine();
        oneFromAToB();
        sixteenInAll();
        usedByAnyFlow();
        rowOfTheLeastSum();
        firstRowOfSeveral();
        turnedByTheRow();
        layersNoughtToNine();
        layerByTheMostFlows();
        beadsBetweenAlone();
        fiveItemsInAnyLayer();
        itemNumbers();
        crossingTakesTwoAndTwo();
        crossingCostsTheProduct();
        crossingOfBeads();
        moveNeedsBothInOneLayer();
        priceNoughtToMost();
        orderByLayerNought();
        orderByTheNextLayers();
        sizeIsTheGreater();
        firstItemAtNought();
        gapNoughtToFifty();
        linksFromTheTop();
        linksAtBeads();
        restCountsTurned();
        due.end();
    }

    private static RibbonSetter with(int... flows) {
        return Told.with(flows);
    }

    /** 0 to 1 to 2 .. to 9. */
    private static RibbonSetter chainOfTen(int width) {
        RibbonSetter x = new RibbonSetter();
        for (int p = 0; p < 9; p++) {
            x.flow(p, p + 1, width);
        }
        return x;
    }

    private static void order(RibbonSetter x, int cost, int pairs, int moves, int orders) {
        due.is("cost()", x.cost(), cost);
        due.is("part(1)", x.part(1), pairs);
        due.is("part(2)", x.part(2), moves);
        due.is("orders()", x.orders(), orders);
    }

    private static void drawn(RibbonSetter x, boolean want) {
        due.is("a drawing by cost()", x.cost() != NONE, want);
        due.is("a drawing by orders()", x.orders() != NONE, want);
        due.is("a drawing by keep()", x.keep(), want);
    }

    private static void callsOfAnObject() {
        due.sentence("An object is used for at most 512 calls after it has been made");
        for (int last = 0; last < 4; last++) {
            RibbonSetter x = new RibbonSetter();
            for (int call = 1; call <= 511; call++) {
                due.is("call " + call, x.flow(call % 3, 3 + call % 2, 1 + call % 99), true);
            }
            switch (last) {
                case 0: due.is("call 512, about(0)", x.about(0), 6); break;
                case 1: due.is("call 512, width(1, 4)", x.width(1, 4), 1 + 511 % 99); break;
                case 2: due.is("call 512, keep()", x.keep(), true); break;
                default: due.is("call 512, flow(9, 8, 99)", x.flow(9, 8, 99), true); break;
            }
        }
    }

    private static void placesNoughtToNine() {
        due.sentence("PLACES 0 .. 9");
        RibbonSetter x = new RibbonSetter();
        due.is("flow(0, 9, 1)", x.flow(0, 9, 1), true);
        due.is("flow(9, 0, 2)", x.flow(9, 0, 2), true);
        due.is("flow(-1, 9, 1)", x.flow(-1, 9, 1), false);
        due.is("flow(10, 9, 1)", x.flow(10, 9, 1), false);
        due.is("flow(0, -1, 1)", x.flow(0, -1, 1), false);
        due.is("flow(0, 10, 1)", x.flow(0, 10, 1), false);
        due.is("rest(0)", x.rest(0), 1);
        due.is("rest(9)", x.rest(9), -1);
        due.is("rest(10)", x.rest(10), -10000);
        due.row(x, 9, 0);
    }

    private static void fromOnePlaceToAnother() {
        due.sentence("A FLOW goes from one PLACE to another one");
        RibbonSetter x = new RibbonSetter();
        for (int p = 0; p < 10; p++) {
            due.is("flow(" + p + ", " + p + ", 1)", x.flow(p, p, 1), false);
            due.is("width(" + p + ", " + p + ")", x.width(p, p), 0);
        }
        due.is("about(0)", x.about(0), 0);
    }

    private static void widthsOneToNinetyNine() {
        due.sentence("with a WIDTH (1 .. 99)");
        RibbonSetter x = new RibbonSetter();
        due.is("flow(0, 1, 1)", x.flow(0, 1, 1), true);
        due.is("width(0, 1)", x.width(0, 1), 1);
        due.is("flow(1, 2, 99)", x.flow(1, 2, 99), true);
        due.is("width(1, 2)", x.width(1, 2), 99);
        due.is("flow(2, 3, 100)", x.flow(2, 3, 100), false);
        due.is("width(2, 3)", x.width(2, 3), 0);
        due.is("flow(2, 3, -1)", x.flow(2, 3, -1), false);
        due.is("about(1)", x.about(1), 100);
    }

    private static void oneFromAToB() {
        due.sentence("one from a to b at most");
        RibbonSetter x = with(4, 5, 60, 4, 5, 70);
        due.is("width(4, 5)", x.width(4, 5), 70);
        due.is("about(0)", x.about(0), 1);
        due.is("about(1)", x.about(1), 70);
        x.flow(5, 4, 80);
        due.is("about(0) with that from b to a", x.about(0), 2);
        due.is("width(4, 5) beside it", x.width(4, 5), 70);
    }

    private static void sixteenInAll() {
        due.sentence("16 in all");
        RibbonSetter x = new RibbonSetter();
        for (int i = 0; i < 16; i++) {
            due.is("flow " + (i + 1), x.flow(i / 4, 4 + i % 4, 99), true);
        }
        due.is("flow 17", x.flow(8, 9, 99), false);
        due.is("about(0)", x.about(0), 16);
        due.is("about(1)", x.about(1), 1584);
        due.is("layer(8)", x.layer(8), NONE);
    }

    private static void usedByAnyFlow() {
        due.sentence("USED is a PLACE that has a FLOW");
        RibbonSetter x = with(3, 7, 5);
        for (int p = 0; p < 10; p++) {
            due.is("layer(" + p + ")", x.layer(p), p == 3 ? 0 : p == 7 ? 1 : NONE);
        }
        due.row(x, 3, 7);
        x.flow(7, 8, 1);
        x.flow(3, 7, 0);
        due.row(x, 7, 8);
        due.is("layer(3) without a FLOW", x.layer(3), NONE);
        due.is("layer(7) with one still", x.layer(7), 0);
        due.is("place(3, 0)", x.place(3, 0), NONE);
        x.flow(7, 8, 0);
        due.row(x);
    }

    private static void rowOfTheLeastSum() {
        due.sentence("of all rows of them the one with the least sum of WIDTHS");
        due.row(with(0, 1, 1, 1, 2, 2, 2, 0, 2), 1, 2, 0);
        due.row(with(0, 1, 2, 1, 2, 1, 2, 0, 2), 2, 0, 1);
        due.row(with(0, 1, 2, 1, 2, 2, 2, 0, 1), 0, 1, 2);
        // Both FLOWS to 0 go at once, 49 and 50 wide, or the one of 98 from it.
        due.row(with(0, 1, 98, 1, 0, 49, 1, 2, 99, 2, 0, 50), 1, 2, 0);
        due.row(with(0, 1, 98, 1, 0, 48, 1, 2, 99, 2, 0, 49), 0, 1, 2);
    }

    private static void firstRowOfSeveral() {
        due.sentence("of several the first by its PLACES, the lesser first");
        due.row(with(8, 3, 7, 3, 8, 7), 3, 8);
        due.row(with(0, 1, 5, 1, 2, 5, 2, 0, 5), 0, 1, 2);
        due.row(with(2, 1, 5, 1, 0, 5, 0, 2, 5), 0, 2, 1);
        due.row(with(9, 0, 1, 1, 2, 1), 1, 2, 9, 0);
        due.row(with(9, 8, 1, 9, 7, 1, 9, 0, 1), 9, 0, 7, 8);
        due.row(with(0, 9, 1, 0, 8, 1, 8, 9, 3, 9, 8, 3), 0, 8, 9);
        due.row(with(0, 1, 98, 1, 0, 48, 1, 2, 99, 2, 0, 50), 0, 1, 2);
    }

    private static void turnedByTheRow() {
        due.sentence("TURNED are those FLOWS");
        RibbonSetter x = with(2, 1, 5, 1, 0, 5, 0, 2, 5);
        due.is("turned(1, 0)", x.turned(1, 0), 1);
        due.is("turned(2, 1)", x.turned(2, 1), 0);
        due.is("turned(0, 2)", x.turned(0, 2), 0);
        due.is("about(2)", x.about(2), 1);
        due.is("about(3)", x.about(3), 5);
        x = with(0, 1, 98, 1, 0, 48, 1, 2, 99, 2, 0, 49);
        due.is("about(2) of two", x.about(2), 2);
        due.is("about(3) of two", x.about(3), 97);
        due.is("turned(1, 0) beside (0, 1)", x.turned(1, 0), 1);
        due.is("turned(0, 1)", x.turned(0, 1), 0);
    }

    private static void layersNoughtToNine() {
        due.sentence("The LAYER of a USED PLACE .. (0 .. 9)");
        RibbonSetter x = chainOfTen(1);
        for (int p = 0; p < 10; p++) {
            due.is("layer(" + p + ")", x.layer(p), p);
        }
        due.is("about(4)", x.about(4), 10);
        due.is("items(9)", x.items(9), 1);
        due.is("item(9, 0)", x.item(9, 0), 9);
        due.is("items(10)", x.items(10), NONE);
        x = new RibbonSetter();
        for (int p = 9; p > 0; p--) {
            x.flow(p, p - 1, 1);
        }
        due.is("layer(9) the other way", x.layer(9), 0);
        due.is("layer(0) the other way", x.layer(0), 9);
    }

    private static void layerByTheMostFlows() {
        due.sentence("the most FLOWS, none TURNED, one behind the other, by which one can come to it");
        RibbonSetter x = with(0, 3, 99, 0, 1, 1, 1, 2, 1, 2, 3, 1);
        due.is("layer(3) by the longest way", x.layer(3), 3);
        x.flow(3, 0, 1);
        due.is("layer(0) behind a TURNED one", x.layer(0), 0);
        due.is("about(4)", x.about(4), 4);
        x.flow(4, 2, 1);
        due.is("layer(4) to which none comes", x.layer(4), 0);
        x.flow(1, 2, 0);
        due.is("layer(2) behind 4 alone", x.layer(2), 1);
        due.is("layer(3) behind 4 and 2", x.layer(3), 2);
    }

    private static void beadsBetweenAlone() {
        due.sentence("A FLOW that is not TURNED, from LAYER l to LAYER m, has a BEAD in each LAYER between");
        RibbonSetter x = with(0, 1, 9);
        due.layer(x, 0, 0);
        due.layer(x, 1, 1);
        Told.add(x, 1, 2, 9, 0, 2, 9);
        due.layer(x, 0, 0);
        due.layer(x, 1, 1, 102);
        due.layer(x, 2, 2);
        x = chainOfTen(9);
        x.flow(0, 9, 9);
        due.layer(x, 0, 0);
        for (int l = 1; l <= 8; l++) {
            due.layer(x, l, l, 109);
        }
        due.layer(x, 9, 9);
        x.flow(0, 9, 0);
        x.flow(9, 0, 8);
        due.is("turned(9, 0)", x.turned(9, 0), 1);
        for (int l = 0; l <= 9; l++) {
            due.is("items(" + l + ") beside a TURNED one", x.items(l), 1);
        }
    }

    private static void fiveItemsInAnyLayer() {
        due.sentence("ITEMS of a LAYER: its PLACES and BEADS; at most 5, else there is no DRAWING");
        RibbonSetter x = with(0, 9, 1, 1, 9, 1, 2, 9, 1, 3, 9, 1, 4, 9, 1);
        drawn(x, true);
        x.flow(5, 9, 1);
        due.is("items(0) of six", x.items(0), 6);
        drawn(x, false);
        x.flow(5, 9, 0);
        drawn(x, true);
        x = with(9, 0, 1, 0, 1, 1, 0, 2, 1, 0, 3, 1, 0, 4, 1, 0, 5, 1);
        drawn(x, true);
        x.flow(0, 6, 1);
        due.is("items(2) of six", x.items(2), 6);
        drawn(x, false);
        x = with(0, 1, 1, 1, 2, 1, 0, 2, 1, 3, 2, 1, 4, 2, 1, 5, 2, 1);
        due.is("items(1) of a PLACE and four BEADS", x.items(1), 5);
        drawn(x, true);
        x.flow(2, 0, 1);
        due.is("items(1) beside a TURNED one", x.items(1), 5);
        drawn(x, true);
        x.flow(6, 2, 1);
        due.is("items(0) still five", x.items(0), 5);
        due.is("items(1) of a PLACE and five BEADS", x.items(1), 6);
        drawn(x, false);
    }

    private static void itemNumbers() {
        due.sentence("PLACE p is p, a BEAD of the FLOW from a to b 100 + 10 a + b");
        due.layer(with(0, 2, 1, 2, 1, 1, 0, 1, 1), 1, 2, 101);
        due.layer(with(9, 0, 1, 0, 8, 1, 9, 8, 1), 1, 0, 198);
        due.layer(with(0, 5, 1, 5, 9, 1, 0, 9, 1), 1, 5, 109);
        due.layer(with(9, 5, 1, 5, 0, 1, 9, 0, 1), 1, 5, 190);
        due.layer(with(0, 9, 1, 1, 9, 1), 1, 9);
        due.layer(with(9, 0, 1), 1, 0);
    }

    private static void crossingTakesTwoAndTwo() {
        due.sentence("Two LINKS between the same LAYERS CROSS, if the one begins above the other, and ends below it");
        order(with(0, 1, 9, 0, 2, 9), 0, 0, 0, 2);
        order(with(1, 0, 9, 2, 0, 9), 0, 0, 0, 2);
        order(with(0, 2, 1, 1, 3, 1), 0, 0, 0, 2);
        order(with(0, 2, 1, 0, 3, 1, 1, 2, 1, 1, 3, 1), 1, 1, 0, 4);
        order(with(0, 2, 1, 0, 3, 1, 1, 2, 1, 1, 3, 1, 2, 4, 2, 2, 5, 2, 3, 4, 2, 3, 5, 2), 5, 2, 0, 8);
    }

    // Where all are led to all, every order has one cross for each two and two: none is dearer.
    private static void crossingCostsTheProduct() {
        due.sentence("that costs the product of their WIDTHS");
        order(with(0, 2, 2, 0, 3, 9, 1, 2, 9, 1, 3, 3), 6, 1, 0, 2);
        order(with(0, 2, 99, 0, 3, 99, 1, 2, 99, 1, 3, 99), 9801, 1, 0, 4);
        RibbonSetter x = new RibbonSetter();
        for (int i = 0; i < 16; i++) {
            x.flow(i / 4, 4 + i % 4, 99);
        }
        order(x, 36 * 9801, 36, 0, 576);
        due.is("part(0)", x.part(0), 36 * 9801);
    }

    // 0 and 5 lead to 2 and 7 past 1: 0 to 2 crosses 5 to 7 (30), which crosses a LINK of 1 too (3).
    private static void crossingOfBeads() {
        due.sentence("LINKS: of such a FLOW from its PLACE, or BEAD, in each LAYER to that in the next one");
        RibbonSetter x = with(0, 1, 1, 1, 2, 1, 1, 7, 1, 0, 2, 10, 0, 7, 20, 5, 2, 30, 5, 7, 3);
        due.is("items(1)", x.items(1), 5);
        due.is("cost()", x.cost(), 33);
        due.is("part(1)", x.part(1), 2);
        due.layer(x, 2, 7, 2);
    }

    /** KEPT is 0 1 / 3 2. */
    private static RibbonSetter keptThreeTwo() {
        RibbonSetter x = with(0, 3, 1, 1, 2, 1);
        due.layer(x, 1, 3, 2);
        due.is("keep()", x.keep(), true);
        x.clear();
        x.set(4, 50);
        return x;
    }

    private static void moveNeedsBothInOneLayer() {
        due.sentence("Two PLACES that are in one LAYER now, and were in one (any) there, MOVE, if they stand the other way round now than there");
        RibbonSetter x = keptThreeTwo();
        Told.add(x, 4, 2, 1, 4, 3, 1);
        due.layer(x, 1, 3, 2);
        order(x, 0, 0, 0, 1);
        x = keptThreeTwo();
        Told.add(x, 2, 4, 1, 3, 4, 1);
        due.layer(x, 0, 3, 2);
        order(x, 0, 0, 0, 1);
        x = keptThreeTwo();
        Told.add(x, 2, 3, 1);
        order(x, 0, 0, 0, 1);
        x = keptThreeTwo();
        Told.add(x, 4, 0, 1, 4, 3, 1);
        due.layer(x, 1, 0, 3);
        order(x, 0, 0, 0, 2);
        x = keptThreeTwo();
        Told.add(x, 9, 2, 1, 9, 8, 1);
        due.layer(x, 1, 2, 8);
        order(x, 0, 0, 0, 2);
        x = with(0, 1, 1, 1, 2, 1, 0, 2, 1);
        x.set(4, 9999);
        x.keep();
        order(x, 0, 0, 0, 2);
    }

    // KEPT is 0 1 / 2 3 4. Then the two LINKS from 0 cross that from 1, or 0 and 1 MOVE.
    private static void priceNoughtToMost() {
        due.sentence("that costs PRICE (0 .. 9999, 0 at first)");
        RibbonSetter x = with(0, 2, 1, 1, 3, 1, 1, 4, 1);
        due.is("about(6)", x.about(6), 0);
        x.keep();
        x.clear();
        Told.add(x, 0, 3, 99, 0, 4, 99, 1, 2, 99);
        due.layer(x, 0, 0, 1);
        due.layer(x, 1, 3, 4, 2);
        order(x, 0, 0, 2, 4);
        due.is("set(4, 1)", x.set(4, 1), true);
        due.layer(x, 0, 1, 0);
        order(x, 1, 0, 1, 1);
        due.is("set(4, 9999)", x.set(4, 9999), true);
        order(x, 9999, 0, 1, 1);
        due.is("part(0)", x.part(0), 0);
        due.is("set(4, 10000)", x.set(4, 10000), false);
        due.is("set(4, -1)", x.set(4, -1), false);
        order(x, 9999, 0, 1, 1);
        x.flow(0, 4, 1);
        due.is("cost() of crosses for less", x.cost(), 9900);
        due.is("part(0) of crosses for less", x.part(0), 9900);
        due.is("part(2) of crosses for less", x.part(2), 0);
    }

    private static void orderByLayerNought() {
        due.sentence("of several the first: by the row of LAYER 0 (ITEMS by their numbers, the lesser first at the first unlikeness)");
        RibbonSetter x = with(0, 3, 1, 1, 2, 1);
        due.layer(x, 0, 0, 1);
        due.layer(x, 1, 3, 2);
        x = with(0, 7, 1, 1, 6, 1, 2, 5, 1, 3, 4, 1);
        due.layer(x, 0, 0, 1, 2, 3);
        due.layer(x, 1, 7, 6, 5, 4);
        x = with(4, 9, 1, 3, 9, 1, 2, 9, 1, 1, 9, 1, 0, 9, 1);
        due.layer(x, 0, 0, 1, 2, 3, 4);
        // The one row that is best has 0 between the others; it or its mirror, and 1 is the lesser.
        x = with(0, 4, 9, 0, 5, 9, 1, 4, 9, 2, 5, 9);
        due.layer(x, 0, 1, 0, 2);
        due.layer(x, 1, 4, 5);
    }

    private static void orderByTheNextLayers() {
        due.sentence("then that of LAYER 1 ..");
        RibbonSetter x = with(0, 5, 1, 0, 4, 1, 0, 3, 1, 0, 2, 1, 0, 1, 1);
        due.layer(x, 1, 1, 2, 3, 4, 5);
        x = with(9, 8, 1, 9, 7, 1, 8, 6, 1, 8, 5, 1, 7, 4, 1, 7, 3, 1);
        due.layer(x, 1, 7, 8);
        due.layer(x, 2, 3, 4, 5, 6);
        x = with(9, 8, 1, 9, 7, 1, 8, 2, 1, 8, 1, 1, 7, 4, 1, 7, 3, 1);
        due.layer(x, 1, 7, 8);
        due.layer(x, 2, 3, 4, 1, 2);
        x = with(0, 9, 1, 9, 8, 1, 0, 8, 1, 0, 7, 1);
        due.layer(x, 1, 7, 9, 108);
        x = with(0, 1, 1, 1, 2, 1, 2, 3, 1, 0, 2, 1, 0, 3, 1);
        due.layer(x, 1, 1, 102, 103);
        due.layer(x, 2, 2, 103);
    }

    // "(1, if that is 0)" can't be seen: were all FLOWS of a PLACE TURNED, then that PLACE at the
    // row's other end would make the sum less. So every SIZE has a FLOW of 1 at least.
    private static void sizeIsTheGreater() {
        due.sentence("SIZE of a PLACE: the greater of what comes to it and what goes from it by FLOWS that are not TURNED");
        RibbonSetter x = with(0, 1, 5, 1, 2, 9);
        due.place(x, 0, 0, 5);
        due.place(x, 1, 0, 9);
        due.place(x, 2, 0, 9);
        x.flow(1, 2, 4);
        due.place(x, 1, 0, 5);
        x.flow(2, 1, 3);
        due.place(x, 1, 0, 5);
        x.flow(1, 0, 4);
        due.place(x, 0, 0, 5);
        due.place(x, 1, 0, 5);
        due.place(with(0, 1, 1), 0, 0, 1);
        x = new RibbonSetter();
        for (int p = 1; p <= 5; p++) {
            x.flow(0, p, 99);
        }
        due.place(x, 0, 0, 495);
        due.place(x, 5, 4 * 103, 4 * 103 + 99);
    }

    private static void firstItemAtNought() {
        due.sentence("The first ITEM of a LAYER has its TOP at 0");
        RibbonSetter x = chainOfTen(7);
        for (int p = 0; p < 10; p++) {
            due.place(x, p, 0, 7);
        }
        x = with(0, 3, 1, 1, 2, 1);
        due.place(x, 0, 0, 1);
        due.place(x, 3, 0, 1);
        // 102 stands above 1, since 8 below 0 leads to 1.
        x = with(0, 1, 1, 1, 2, 1, 0, 2, 3, 8, 1, 1);
        due.layer(x, 1, 102, 1);
        due.point(x, 0, 2, 1, 0, 0);
        due.place(x, 1, 7, 9);
    }

    private static void gapNoughtToFifty() {
        due.sentence("each next one GAP points (0 .. 50, 4 at first) below the LOW of the one ahead; LOW is TOP and SIZE");
        RibbonSetter x = with(0, 5, 3, 1, 5, 5, 2, 5, 7);
        due.is("about(5)", x.about(5), 4);
        due.place(x, 1, 7, 12);
        due.place(x, 2, 16, 23);
        due.is("set(0, 0)", x.set(0, 0), true);
        due.place(x, 1, 3, 8);
        due.place(x, 2, 8, 15);
        due.is("set(50, 0)", x.set(50, 0), true);
        due.place(x, 1, 53, 58);
        due.place(x, 2, 108, 115);
        due.is("set(51, 0)", x.set(51, 0), false);
        due.is("set(-1, 0)", x.set(-1, 0), false);
        due.place(x, 2, 108, 115);
        due.place(x, 0, 0, 3);
        due.place(x, 5, 0, 15);
    }

    private static void linksFromTheTop() {
        due.sentence("LINKS begin at their PLACE one below the other from its TOP on, in the order of the ITEMS to which they go; they end likewise");
        RibbonSetter x = with(0, 2, 2, 0, 3, 9, 1, 2, 9, 1, 3, 3);
        due.layer(x, 1, 3, 2);
        due.point(x, 0, 3, 0, NONE, 0);
        due.point(x, 0, 2, 0, NONE, 9);
        due.point(x, 1, 3, 0, NONE, 15);
        due.point(x, 1, 2, 0, NONE, 18);
        due.point(x, 0, 3, 1, 0, NONE);
        due.point(x, 1, 3, 1, 9, NONE);
        due.point(x, 0, 2, 1, 16, NONE);
        due.point(x, 1, 2, 1, 18, NONE);
        // The lesser side of a PLACE begins at its TOP too, for all the room below.
        x = with(0, 4, 1, 0, 1, 2, 1, 2, 20, 1, 3, 30);
        due.layer(x, 1, 1, 4);
        due.point(x, 0, 1, 0, NONE, 0);
        due.point(x, 0, 4, 0, NONE, 2);
        due.point(x, 0, 1, 1, 0, NONE);
        due.point(x, 0, 4, 1, 54, NONE);
        due.point(x, 1, 2, 1, NONE, 0);
        due.point(x, 1, 3, 1, NONE, 20);
    }

    private static void linksAtBeads() {
        due.sentence("at a BEAD at its TOP");
        RibbonSetter x = with(0, 1, 3, 1, 2, 8, 2, 3, 2, 0, 3, 6, 0, 2, 5);
        due.layer(x, 1, 1, 102, 103);
        due.layer(x, 2, 2, 103);
        due.point(x, 0, 2, 0, NONE, 3);
        due.point(x, 0, 2, 1, 12, 12);
        due.point(x, 0, 2, 2, 8, NONE);
        due.point(x, 0, 3, 0, NONE, 8);
        due.point(x, 0, 3, 1, 21, 21);
        due.point(x, 0, 3, 2, 17, 17);
        due.point(x, 0, 3, 3, 2, NONE);
    }

    private static void restCountsTurned() {
        due.sentence("REST of a PLACE: what comes to it less what goes from it, TURNED ones too");
        RibbonSetter x = with(0, 1, 5, 1, 0, 4);
        due.is("turned(1, 0)", x.turned(1, 0), 1);
        due.is("rest(0)", x.rest(0), -1);
        due.is("rest(1)", x.rest(1), 1);
        x = new RibbonSetter();
        for (int p = 1; p < 10; p++) {
            x.flow(p, 0, 99);
        }
        due.is("rest(0) of the most", x.rest(0), 891);
        due.is("rest(9) of the most", x.rest(9), -99);
        for (int p = 1; p < 10; p++) {
            x.flow(p, 0, 0);
            x.flow(0, p, 99);
        }
        due.is("rest(0) of the least", x.rest(0), -891);
    }
}
