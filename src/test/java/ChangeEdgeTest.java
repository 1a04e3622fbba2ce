import java.util.function.Consumer;
import java.util.function.Predicate;

/** The edges of what changes an object (promises 1 to 4, 17 and 18), one method for each sentence. */
public final class ChangeEdgeTest {
    private static final int NONE = -1;
    private static final int[] NO_PLACES = {Integer.MIN_VALUE, -10, -1, 10, 11, 100, Integer.MAX_VALUE};
    private static final Due due = new Due("ChangeEdgeTest");

    public static void main(String[] args) {
        newHasNoFlows();
        newHasNothingKept();
        objectsStandAlone();
        flowSetsAWidth();
        flowOfNoughtTakesAway();
        flowOfNoSuchPlaces();
        flowOfTheSame();
        flowOfNoSuchWidth();
        flowThatWouldBeTheSeventeenth();
        flowWhereAllAreTaken();
        clearTakesAll();
        clearLeavesKept();
        setTakesBoth();
        setRefusesBoth();
        keepFromNowOn();
        keepAtOnce();
        keepOfPlacesAlone();
        keepWithoutFlows();
        keepWithoutDrawing();
        forgetAll();
        forgetNothing();
        due.end();
    }

    private static RibbonSetter with(int... flows) {
        return Told.with(flows);
    }

    /** The call answers false, and an object on which it was made tells what another one tells. */
    private static void refused(String call, Consumer<RibbonSetter> ahead, Predicate<RibbonSetter> made) {
        RibbonSetter left = new RibbonSetter();
        ahead.accept(left);
        RibbonSetter x = new RibbonSetter();
        ahead.accept(x);
        due.is(call, made.test(x), false);
        due.is("after " + call + " the object", Told.of(x), Told.of(left));
    }

    /** FLOWS with a ring, a cross and a BEAD, and something KEPT that costs. */
    private static void some(RibbonSetter x) {
        Told.add(x, 0, 2, 5, 1, 3, 5);
        x.keep();
        x.clear();
        Told.add(x, 0, 3, 5, 1, 2, 5, 0, 2, 1, 1, 3, 2, 2, 4, 3, 0, 4, 4, 4, 0, 1);
        x.set(7, 9);
    }

    private static void sixteen(RibbonSetter x) {
        for (int i = 0; i < 16; i++) {
            x.flow(i / 4, 4 + i % 4, 1 + i);
        }
    }

    private static void six(RibbonSetter x) {
        for (int p = 1; p <= 6; p++) {
            x.flow(0, p, 1);
        }
    }

    /** Where 2 and 3 stand, when nothing but what is KEPT (at a PRICE) can tell them apart. */
    private static void twoAndThree(RibbonSetter x, int upper, int orders) {
        x.clear();
        x.set(4, 1);
        Told.add(x, 0, 2, 1, 0, 3, 1);
        due.is("item(1, 0)", x.item(1, 0), upper);
        due.is("orders()", x.orders(), orders);
        due.is("cost()", x.cost(), 0);
    }

    private static RibbonSetter keptThreeTwo() {
        RibbonSetter x = with(0, 3, 1, 1, 2, 1);
        due.is("keep()", x.keep(), true);
        due.is("about(7)", x.about(7), 1);
        return x;
    }

    private static void newHasNoFlows() {
        due.sentence("RibbonSetter(): No FLOWS");
        RibbonSetter x = new RibbonSetter();
        for (int what = 0; what <= 4; what++) {
            due.is("about(" + what + ")", x.about(what), 0);
        }
        for (int a = 0; a < 10; a++) {
            for (int b = 0; b < 10; b++) {
                due.is("width(" + a + ", " + b + ")", x.width(a, b), 0);
            }
        }
        due.is("row(0)", x.row(0), NONE);
        due.is("items(0)", x.items(0), NONE);
        due.is("cost()", x.cost(), 0);
    }

    private static void newHasNothingKept() {
        due.sentence("RibbonSetter(): nothing KEPT");
        RibbonSetter x = new RibbonSetter();
        due.is("about(7)", x.about(7), 0);
        twoAndThree(x, 2, 2);
    }

    private static void objectsStandAlone() {
        due.sentence("RibbonSetter(): No FLOWS, nothing KEPT (beside one that has both)");
        RibbonSetter first = new RibbonSetter();
        String empty = Told.of(new RibbonSetter());
        some(first);
        first.keep();
        due.is("a new object", Told.of(new RibbonSetter()), empty);
        due.is("the first one's about(0)", first.about(0), 7);
    }

    private static void flowSetsAWidth() {
        due.sentence("The FLOW from a to b has that WIDTH: true");
        RibbonSetter x = new RibbonSetter();
        for (int width : new int[] {1, 99, 50, 99, 1}) {
            due.is("flow(0, 9, " + width + ")", x.flow(0, 9, width), true);
            due.is("width(0, 9)", x.width(0, 9), width);
            due.is("about(0)", x.about(0), 1);
            due.is("about(1)", x.about(1), width);
            due.is("place(9, 1)", x.place(9, 1), width);
            due.is("the same again", x.flow(0, 9, width), true);
            due.is("about(1) again", x.about(1), width);
        }
    }

    private static void flowOfNoughtTakesAway() {
        due.sentence("(0: there is none): true");
        RibbonSetter x = with(0, 1, 5, 1, 2, 4, 2, 0, 3);
        due.is("flow(0, 1, 0)", x.flow(0, 1, 0), true);
        due.is("width(0, 1)", x.width(0, 1), 0);
        due.is("turned(0, 1)", x.turned(0, 1), NONE);
        due.is("turned(2, 0) without the ring", x.turned(2, 0), 0);
        due.is("about(0)", x.about(0), 2);
        due.is("flow(0, 1, 0) of none", x.flow(0, 1, 0), true);
        due.is("flow(9, 8, 0) of none", x.flow(9, 8, 0), true);
        due.is("about(0) still", x.about(0), 2);
        due.is("layer(9)", x.layer(9), NONE);
        x.flow(1, 2, 0);
        x.flow(2, 0, 0);
        due.is("about(4) of none left", x.about(4), 0);
        due.is("orders() of none left", x.orders(), 1);
    }

    private static void flowOfNoSuchPlaces() {
        due.sentence("False, and nothing is done: no such PLACES");
        for (int p : NO_PLACES) {
            refused("flow(" + p + ", 4, 9)", ChangeEdgeTest::some, x -> x.flow(p, 4, 9));
            refused("flow(0, " + p + ", 9)", ChangeEdgeTest::some, x -> x.flow(0, p, 9));
            refused("flow(0, " + p + ", 0)", ChangeEdgeTest::some, x -> x.flow(0, p, 0));
            refused("flow(" + p + ", 0, 0)", ChangeEdgeTest::some, x -> x.flow(p, 0, 0));
        }
        // One that an unlooked-at sum of a row and a column would find: 0 * 10 + 13 is that from 1 to 3.
        refused("flow(0, 13, 9)", ChangeEdgeTest::some, x -> x.flow(0, 13, 9));
        refused("flow(2, -7, 9)", ChangeEdgeTest::some, x -> x.flow(2, -7, 9));
    }

    private static void flowOfTheSame() {
        due.sentence("False, and nothing is done: the same");
        for (int p = 0; p < 10; p++) {
            int same = p;
            refused("flow(" + p + ", " + p + ", 1)", ChangeEdgeTest::some, x -> x.flow(same, same, 1));
            refused("flow(" + p + ", " + p + ", 0)", ChangeEdgeTest::some, x -> x.flow(same, same, 0));
        }
    }

    private static void flowOfNoSuchWidth() {
        due.sentence("False, and nothing is done: no such WIDTH");
        for (int width : new int[] {Integer.MIN_VALUE, -99, -1, 100, 101, Integer.MAX_VALUE}) {
            refused("flow(0, 3, " + width + ")", ChangeEdgeTest::some, x -> x.flow(0, 3, width));
            refused("flow(8, 9, " + width + ")", ChangeEdgeTest::some, x -> x.flow(8, 9, width));
        }
    }

    private static void flowThatWouldBeTheSeventeenth() {
        due.sentence("False, and nothing is done: or it would be the 17th");
        refused("flow(8, 9, 1)", ChangeEdgeTest::sixteen, x -> x.flow(8, 9, 1));
        refused("flow(4, 0, 99)", ChangeEdgeTest::sixteen, x -> x.flow(4, 0, 99));
        RibbonSetter x = new RibbonSetter();
        for (int i = 0; i < 15; i++) {
            x.flow(i / 4, 4 + i % 4, 1);
        }
        due.is("the 16th", x.flow(8, 9, 1), true);
        due.is("the 17th", x.flow(3, 7, 1), false);
        due.is("width(3, 7)", x.width(3, 7), 0);
    }

    private static void flowWhereAllAreTaken() {
        due.sentence("it would be the 17th (and not: one of the 16 anew, or none)");
        RibbonSetter x = new RibbonSetter();
        sixteen(x);
        due.is("one of the 16 anew", x.flow(3, 7, 99), true);
        due.is("width(3, 7)", x.width(3, 7), 99);
        due.is("none where none is", x.flow(8, 9, 0), true);
        due.is("about(0)", x.about(0), 16);
        due.is("one goes", x.flow(0, 4, 0), true);
        due.is("about(0) of 15", x.about(0), 15);
        due.is("another one comes", x.flow(8, 9, 1), true);
        due.is("it can't come back", x.flow(0, 4, 1), false);
        due.is("width(0, 4)", x.width(0, 4), 0);
    }

    private static void clearTakesAll() {
        due.sentence("clear(): All FLOWS go");
        RibbonSetter x = new RibbonSetter();
        sixteen(x);
        x.orders();
        x.clear();
        due.is("after clear() the object", Told.of(x), Told.of(new RibbonSetter()));
        x = new RibbonSetter();
        x.clear();
        due.is("after clear() a new object", Told.of(x), Told.of(new RibbonSetter()));
        sixteen(x);
        x.clear();
        sixteen(x);
        due.is("16 after clear()", x.about(0), 16);
        due.is("the 17th after clear()", x.flow(8, 9, 1), false);
        x.clear();
        six(x);
        x.clear();
        due.is("cost() behind no DRAWING", x.cost(), 0);
    }

    private static void clearLeavesKept() {
        due.sentence("clear(): (What is KEPT stays.)");
        RibbonSetter x = keptThreeTwo();
        x.set(11, 12);
        x.clear();
        due.is("about(7)", x.about(7), 1);
        due.is("about(5)", x.about(5), 11);
        due.is("about(6)", x.about(6), 12);
        x.clear();
        twoAndThree(x, 3, 1);
    }

    private static void setTakesBoth() {
        due.sentence("set(): GAP and PRICE: true");
        RibbonSetter x = new RibbonSetter();
        for (int[] both : new int[][] {{0, 0}, {50, 9999}, {0, 9999}, {50, 0}, {1, 1}, {1, 1}}) {
            due.is("set(" + both[0] + ", " + both[1] + ")", x.set(both[0], both[1]), true);
            due.is("about(5)", x.about(5), both[0]);
            due.is("about(6)", x.about(6), both[1]);
        }
    }

    private static void setRefusesBoth() {
        due.sentence("set(): false, and nothing is done, if one can't be");
        for (int gap : new int[] {Integer.MIN_VALUE, -1, 51, Integer.MAX_VALUE}) {
            refused("set(" + gap + ", 1)", ChangeEdgeTest::some, x -> x.set(gap, 1));
            refused("set(" + gap + ", -1)", ChangeEdgeTest::some, x -> x.set(gap, -1));
        }
        for (int price : new int[] {Integer.MIN_VALUE, -1, 10000, Integer.MAX_VALUE}) {
            refused("set(1, " + price + ")", ChangeEdgeTest::some, x -> x.set(1, price));
        }
    }

    private static void keepFromNowOn() {
        due.sentence("keep(): THE ORDER's rows of PLACES are KEPT from now on: true");
        RibbonSetter x = keptThreeTwo();
        twoAndThree(x, 3, 1);
        due.is("keep() once more", x.keep(), true);
        twoAndThree(x, 3, 1);
        x.clear();
        Told.add(x, 0, 2, 9, 1, 3, 9);
        due.is("item(1, 0) where a MOVE costs least", x.item(1, 0), 3);
        due.is("item(0, 0) where a MOVE costs least", x.item(0, 0), 1);
        due.is("part(2)", x.part(2), 0);
        x.forget();
        due.is("keep() of 2 3", x.keep(), true);
        twoAndThree(x, 2, 1);
    }

    // KEPT is 0 1 / 3 2; now 0 and 1 MOVE, or 2 and 3, until that is KEPT itself.
    private static void keepAtOnce() {
        due.sentence("keep(): .. are KEPT from now on (right behind the call)");
        RibbonSetter x = keptThreeTwo();
        x.clear();
        x.set(4, 7);
        Told.add(x, 0, 2, 9, 1, 3, 9);
        due.is("cost()", x.cost(), 7);
        due.is("part(2)", x.part(2), 1);
        due.is("orders()", x.orders(), 2);
        due.is("keep()", x.keep(), true);
        due.is("cost() right behind it", x.cost(), 0);
        due.is("part(2) right behind it", x.part(2), 0);
        due.is("orders() right behind it", x.orders(), 1);
    }

    // KEPT is 0 / 102 1 / .., with 102 above 1 while 8 leads to 1; without 8 either may be above.
    private static void keepOfPlacesAlone() {
        due.sentence("keep(): THE ORDER's rows of PLACES");
        RibbonSetter x = with(0, 1, 1, 1, 2, 1, 0, 2, 1, 8, 1, 1);
        due.is("item(1, 0)", x.item(1, 0), 102);
        x.keep();
        x.set(4, 9999);
        x.flow(8, 1, 0);
        due.is("item(1, 0) without 8", x.item(1, 0), 1);
        due.is("orders()", x.orders(), 2);
        due.is("part(2)", x.part(2), 0);
    }

    private static void keepWithoutFlows() {
        due.sentence("keep(): true (without FLOWS there is a DRAWING too)");
        RibbonSetter x = new RibbonSetter();
        due.is("keep()", x.keep(), true);
        due.is("about(7)", x.about(7), 1);
        twoAndThree(x, 2, 2);
        x = keptThreeTwo();
        x.clear();
        due.is("keep() behind another", x.keep(), true);
        due.is("about(7) behind another", x.about(7), 1);
        twoAndThree(x, 2, 2);
    }

    private static void keepWithoutDrawing() {
        due.sentence("keep(): false, and nothing is done, if there is no DRAWING");
        refused("keep() of six", ChangeEdgeTest::six, RibbonSetter::keep);
        RibbonSetter x = new RibbonSetter();
        six(x);
        due.is("keep()", x.keep(), false);
        twoAndThree(x, 2, 2);
        x = keptThreeTwo();
        x.clear();
        six(x);
        due.is("keep() behind another", x.keep(), false);
        due.is("about(7)", x.about(7), 1);
        twoAndThree(x, 3, 1);
    }

    private static void forgetAll() {
        due.sentence("forget(): Nothing is KEPT any more");
        RibbonSetter x = keptThreeTwo();
        x.set(11, 12);
        x.forget();
        due.is("about(7)", x.about(7), 0);
        due.is("about(0)", x.about(0), 2);
        due.is("about(5)", x.about(5), 11);
        due.is("about(6)", x.about(6), 12);
        twoAndThree(x, 2, 2);
        x = keptThreeTwo();
        twoAndThree(x, 3, 1);
        x.forget();
        due.is("item(1, 0) right behind it", x.item(1, 0), 2);
        due.is("orders() right behind it", x.orders(), 2);
        due.is("keep() behind it", x.keep(), true);
        due.is("about(7) behind it", x.about(7), 1);
    }

    private static void forgetNothing() {
        due.sentence("forget(): Nothing is KEPT any more (where nothing was)");
        RibbonSetter x = new RibbonSetter();
        x.forget();
        due.is("after forget() a new object", Told.of(x), Told.of(new RibbonSetter()));
        x = new RibbonSetter();
        x.keep();
        x.forget();
        x.forget();
        due.is("after keep() and forget()", Told.of(x), Told.of(new RibbonSetter()));
    }
}
