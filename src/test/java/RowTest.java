/** Promises 7 to 9 and 13: THE ROW, what is TURNED by it, the LAYERS and how many ITEMS they have. */
public final class RowTest {
    private static final int NONE = -1;
    private static final Due due = new Due("RowTest");

    public static void main(String[] args) {
        rowWithoutRings();
        evenRing();
        twoLesserOrOneGreater();
        ringOfTen();
        layersByTheLongestWay();
        layersWithoutDrawing();
        wrongArguments();
        due.end();
    }

    private static RibbonSetter with(int[]... flows) {
        RibbonSetter x = new RibbonSetter();
        for (int[] flow : flows) {
            due.is("flow", x.flow(flow[0], flow[1], flow[2]), true);
        }
        return x;
    }

    private static void layers(RibbonSetter x, int... layers) {
        for (int p = 0; p < 10; p++) {
            due.is("layer(" + p + ")", x.layer(p), layers[p]);
        }
    }

    private static void items(RibbonSetter x, int... counts) {
        due.is("about(4)", x.about(4), counts.length);
        for (int l = 0; l < counts.length; l++) {
            due.is("items(" + l + ")", x.items(l), counts[l]);
        }
        due.is("items behind the last", x.items(counts.length), NONE);
        due.is("items(-1)", x.items(-1), NONE);
    }

    // The first row by its PLACES takes a free PLACE as soon as it may stand.
    private static void rowWithoutRings() {
        RibbonSetter x = with(new int[] {5, 2, 1}, new int[] {3, 1, 1});
        due.row(x, 3, 1, 5, 2);
        layers(x, NONE, 1, 1, 0, NONE, 0, NONE, NONE, NONE, NONE);
        items(x, 2, 2);
        due.is("about(2)", x.about(2), 0);
    }

    private static void evenRing() {
        RibbonSetter x = with(new int[] {8, 3, 5}, new int[] {3, 8, 5});
        due.row(x, 3, 8);
        due.is("turned(8, 3)", x.turned(8, 3), 1);
        due.is("turned(3, 8)", x.turned(3, 8), 0);
        x.flow(8, 3, 6);
        due.row(x, 8, 3);
        due.is("turned(8, 3) by width", x.turned(8, 3), 0);
        due.is("turned(3, 8) by width", x.turned(3, 8), 1);
        due.is("about(2)", x.about(2), 1);
        due.is("about(3)", x.about(3), 5);
    }

    // One FLOW of 5 is turned rather than two of 3: the sum counts, not each.
    private static void twoLesserOrOneGreater() {
        RibbonSetter x = with(new int[] {0, 1, 5}, new int[] {1, 2, 5}, new int[] {2, 0, 3},
            new int[] {1, 0, 3});
        due.row(x, 1, 2, 0);
        due.is("turned(0, 1)", x.turned(0, 1), 1);
        due.is("turned(2, 0)", x.turned(2, 0), 0);
        due.is("turned(1, 0)", x.turned(1, 0), 0);
        due.is("about(2)", x.about(2), 1);
        due.is("about(3)", x.about(3), 5);
        x.flow(1, 0, 2);
        due.row(x, 0, 1, 2);
        due.is("about(2) of an even sum", x.about(2), 2);
        due.is("about(3) of an even sum", x.about(3), 5);
    }

    private static void ringOfTen() {
        RibbonSetter x = new RibbonSetter();
        for (int p = 0; p < 10; p++) {
            x.flow(p, (p + 1) % 10, p == 4 ? 1 : 9);
        }
        due.row(x, 5, 6, 7, 8, 9, 0, 1, 2, 3, 4);
        layers(x, 5, 6, 7, 8, 9, 0, 1, 2, 3, 4);
        due.is("turned(4, 5)", x.turned(4, 5), 1);
        items(x, 1, 1, 1, 1, 1, 1, 1, 1, 1, 1);
    }

    // 0 to 3 by 1 and 2 makes 3 the third behind 0; the short FLOW has BEADS.
    private static void layersByTheLongestWay() {
        RibbonSetter x = with(new int[] {0, 3, 9}, new int[] {0, 1, 1}, new int[] {1, 2, 1},
            new int[] {2, 3, 1}, new int[] {4, 3, 1});
        layers(x, 0, 1, 2, 3, 0, NONE, NONE, NONE, NONE, NONE);
        items(x, 2, 3, 3, 1);
        x.flow(1, 2, 0);
        layers(x, 0, 1, 0, 1, 0, NONE, NONE, NONE, NONE, NONE);
        items(x, 3, 2);
    }

    private static void layersWithoutDrawing() {
        RibbonSetter x = new RibbonSetter();
        for (int p = 1; p < 10; p++) {
            x.flow(0, p, p);
        }
        x.flow(9, 0, 3);
        items(x, 1, 9);
        due.is("cost()", x.cost(), NONE);
        due.is("turned(9, 0)", x.turned(9, 0), 1);
        due.is("turned(0, 9)", x.turned(0, 9), 0);
        due.is("about(3)", x.about(3), 3);
        due.is("layer(9)", x.layer(9), 1);
        due.row(x, 0, 1, 2, 3, 4, 5, 6, 7, 8, 9);
    }

    private static void wrongArguments() {
        RibbonSetter x = with(new int[] {0, 1, 1});
        for (int far : new int[] {Integer.MIN_VALUE, -1, 2, 10, Integer.MAX_VALUE}) {
            due.is("row(" + far + ")", x.row(far), NONE);
            due.is("layer(" + far + ")", x.layer(far), NONE);
            due.is("items(" + far + ")", x.items(far), NONE);
            due.is("turned(" + far + ", 1)", x.turned(far, 1), NONE);
            due.is("turned(0, " + far + ")", x.turned(0, far), NONE);
        }
        due.is("turned(1, 0) of none", x.turned(1, 0), NONE);
        due.is("turned(0, 0)", x.turned(0, 0), NONE);
    }
}
