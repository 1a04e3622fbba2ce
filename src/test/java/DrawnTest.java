/** Promises 15 and 16: where PLACES stand, and where LINKS begin and end. */
public final class DrawnTest {
    private static final int NONE = -1;
    private static final Due due = new Due("DrawnTest");

    public static void main(String[] args) {
        sizesLeaveOutTurned();
        fanOutAndIn();
        throughBeads();
        gapAlone();
        noDrawing();
        wrongArguments();
        due.end();
    }

    private static void sizesLeaveOutTurned() {
        RibbonSetter x = new RibbonSetter();
        x.flow(0, 1, 5);
        x.flow(1, 2, 4);
        x.flow(2, 0, 3);
        due.place(x, 0, 0, 5);
        due.place(x, 1, 0, 5);
        due.place(x, 2, 0, 4);
        for (int l = -1; l <= 3; l++) {
            due.point(x, 2, 0, l, NONE, NONE);
        }
        due.point(x, 0, 1, 0, NONE, 0);
        due.point(x, 0, 1, 1, 0, NONE);
        due.point(x, 0, 1, 2, NONE, NONE);
        due.point(x, 1, 2, 0, NONE, NONE);
        due.point(x, 1, 2, 1, NONE, 0);
        due.point(x, 1, 2, 2, 0, NONE);

        x.clear();
        x.flow(0, 1, 5);
        x.flow(1, 2, 5);
        x.flow(2, 1, 4);
        due.place(x, 1, 0, 5);
        x.flow(2, 1, 0);
        x.flow(1, 0, 4);
        due.place(x, 1, 0, 5);
    }

    // LINKS leave in the order of where they go: 3 1 / 2 4 has 3 to 2 above 3 to 4.
    private static void fanOutAndIn() {
        RibbonSetter x = new RibbonSetter();
        x.flow(1, 4, 10);
        x.flow(3, 2, 20);
        x.flow(3, 4, 5);
        due.is("cost()", x.cost(), 0);
        due.is("item(0, 0)", x.item(0, 0), 1);
        due.is("item(1, 0)", x.item(1, 0), 4);
        due.place(x, 1, 0, 10);
        due.place(x, 3, 14, 39);
        due.place(x, 4, 0, 15);
        due.place(x, 2, 19, 39);
        due.point(x, 1, 4, 0, NONE, 0);
        due.point(x, 1, 4, 1, 0, NONE);
        due.point(x, 3, 4, 0, NONE, 14);
        due.point(x, 3, 4, 1, 10, NONE);
        due.point(x, 3, 2, 0, NONE, 19);
        due.point(x, 3, 2, 1, 19, NONE);
    }

    // 0 to 3 lies below the chain 0 1 2 3 in each LAYER between.
    private static void throughBeads() {
        RibbonSetter x = new RibbonSetter();
        x.flow(0, 1, 3);
        x.flow(1, 2, 8);
        x.flow(2, 3, 2);
        x.flow(0, 3, 6);
        due.place(x, 0, 0, 9);
        due.place(x, 1, 0, 8);
        due.place(x, 2, 0, 8);
        due.place(x, 3, 0, 8);
        due.point(x, 0, 3, 0, NONE, 3);
        due.point(x, 0, 3, 1, 12, 12);
        due.point(x, 0, 3, 2, 12, 12);
        due.point(x, 0, 3, 3, 2, NONE);
        due.point(x, 0, 3, 4, NONE, NONE);
        due.point(x, 0, 3, -1, NONE, NONE);
    }

    private static void gapAlone() {
        RibbonSetter x = new RibbonSetter();
        x.flow(0, 2, 3);
        x.flow(1, 3, 5);
        due.place(x, 1, 7, 12);
        x.set(0, 0);
        due.place(x, 1, 3, 8);
        due.point(x, 1, 3, 0, NONE, 3);
        x.set(50, 0);
        due.place(x, 1, 53, 58);
        due.point(x, 1, 3, 1, 53, NONE);
        due.is("set(51, 0)", x.set(51, 0), false);
        due.place(x, 3, 53, 58);
    }

    private static void noDrawing() {
        RibbonSetter x = new RibbonSetter();
        for (int p = 1; p <= 6; p++) {
            x.flow(0, p, 1);
        }
        due.place(x, 0, NONE, NONE);
        due.place(x, 1, NONE, NONE);
        due.point(x, 0, 1, 0, NONE, NONE);
        due.point(x, 0, 1, 1, NONE, NONE);
    }

    private static void wrongArguments() {
        RibbonSetter x = new RibbonSetter();
        x.flow(0, 1, 1);
        for (int far : new int[] {Integer.MIN_VALUE, -1, 2, 10, Integer.MAX_VALUE}) {
            due.place(x, far, NONE, NONE);
            due.is("place(0, " + far + ")", x.place(0, far), NONE);
            due.point(x, far, 1, 0, NONE, NONE);
            due.point(x, 0, far, 0, NONE, NONE);
            due.point(x, 0, 1, far, NONE, NONE);
            due.is("point(0, 1, 0, " + far + ")", x.point(0, 1, 0, far), NONE);
            due.is("point(0, 1, 1, " + far + ")", x.point(0, 1, 1, far), NONE);
        }
        due.point(x, 1, 0, 0, NONE, NONE);
        due.point(x, 0, 0, 0, NONE, NONE);
        due.place(x, 5, NONE, NONE);
    }
}
