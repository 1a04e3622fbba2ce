/** Promises 15 and 16: where PLACES stand, and where LINKS begin and end. */
public final class DrawnTest {
    private static final int NONE = -1;
    private static final Due due = new Due("DrawnTest");

    public static void main(String[] args) {
        sizesLeaveOutTurned();
        fanOutAndIn();
        throughBeads();
        gapAlone();
        noDrawing();
        wrongArguments();
        due.end();
    }

    private static void place(RibbonSetter x, int p, int top, int low) {
        due.is("place(" + p + ", 0)", x.place(p, 0), top);
        due.is("place(" + p + ", 1)", x.place(p, 1), low);
    }

    private static void point(RibbonSetter x, int a, int b, int l, int end, int begin) {
        due.is("point(" + a + ", " + b + ", " + l + ", 0)", x.point(a, b, l, 0), end);
        due.is("point(" + a + ", " + b + ", " + l + ", 1)", x.point(a, b, l, 1), begin);
    }

    private static void sizesLeaveOutTurned() {
        RibbonSetter x = new RibbonSetter();
        x.flow(0, 1, 5);
        x.flow(1, 2, 4);
        x.flow(2, 0, 3);
        place(x, 0, 0, 5);
        place(x, 1, 0, 5);
        place(x, 2, 0, 4);
        for (int l = -1; l <= 3; l++) {
            point(x, 2, 0, l, NONE, NONE);
        }
        point(x, 0, 1, 0, NONE, 0);
        point(x, 0, 1, 1, 0, NONE);
        point(x, 0, 1, 2, NONE, NONE);
        point(x, 1, 2, 0, NONE, NONE);
        point(x, 1, 2, 1, NONE, 0);
        point(x, 1, 2, 2, 0, NONE);

        x.clear();
        x.flow(0, 1, 5);
        x.flow(1, 2, 5);
        x.flow(2, 1, 4);
        place(x, 1, 0, 5);
        x.flow(2, 1, 0);
        x.flow(1, 0, 4);
        place(x, 1, 0, 5);
    }

    // LINKS leave in the order of where they go: 3 1 / 2 4 has 3 to 2 above 3 to 4.
    private static void fanOutAndIn() {
        RibbonSetter x = new RibbonSetter();
        x.flow(1, 4, 10);
        x.flow(3, 2, 20);
        x.flow(3, 4, 5);
        due.is("cost()", x.cost(), 0);
        due.is("item(0, 0)", x.item(0, 0), 1);
        due.is("item(1, 0)", x.item(1, 0), 4);
        place(x, 1, 0, 10);
        place(x, 3, 14, 39);
        place(x, 4, 0, 15);
        place(x, 2, 19, 39);
        point(x, 1, 4, 0, NONE, 0);
        point(x, 1, 4, 1, 0, NONE);
        point(x, 3, 4, 0, NONE, 14);
        point(x, 3, 4, 1, 10, NONE);
        point(x, 3, 2, 0, NONE, 19);
        point(x, 3, 2, 1, 19, NONE);
    }

    // 0 to 3 lies below the chain 0 1 2 3 in each LAYER between.
    private static void throughBeads() {
        RibbonSetter x = new RibbonSetter();
        x.flow(0, 1, 3);
        x.flow(1, 2, 8);
        x.flow(2, 3, 2);
        x.flow(0, 3, 6);
        place(x, 0, 0, 9);
        place(x, 1, 0, 8);
        place(x, 2, 0, 8);
        place(x, 3, 0, 8);
        point(x, 0, 3, 0, NONE, 3);
        point(x, 0, 3, 1, 12, 12);
        point(x, 0, 3, 2, 12, 12);
        point(x, 0, 3, 3, 2, NONE);
        point(x, 0, 3, 4, NONE, NONE);
        point(x, 0, 3, -1, NONE, NONE);
    }

    private static void gapAlone() {
        RibbonSetter x = new RibbonSetter();
        x.flow(0, 2, 3);
        x.flow(1, 3, 5);
        place(x, 1, 7, 12);
        x.set(0, 0);
        place(x, 1, 3, 8);
        point(x, 1, 3, 0, NONE, 3);
        x.set(50, 0);
        place(x, 1, 53, 58);
        point(x, 1, 3, 1, 53, NONE);
        due.is("set(51, 0)", x.set(51, 0), false);
        place(x, 3, 53, 58);
    }

    private static void noDrawing() {
        RibbonSetter x = new RibbonSetter();
        for (int p = 1; p <= 6; p++) {
            x.flow(0, p, 1);
        }
        place(x, 0, NONE, NONE);
        place(x, 1, NONE, NONE);
        point(x, 0, 1, 0, NONE, NONE);
        point(x, 0, 1, 1, NONE, NONE);
    }

    private static void wrongArguments() {
        RibbonSetter x = new RibbonSetter();
        x.flow(0, 1, 1);
        for (int far : new int[] {Integer.MIN_VALUE, -1, 2, 10, Integer.MAX_VALUE}) {
            place(x, far, NONE, NONE);
            due.is("place(0, " + far + ")", x.place(0, far), NONE);
            point(x, far, 1, 0, NONE, NONE);
            point(x, 0, far, 0, NONE, NONE);
            point(x, 0, 1, far, NONE, NONE);
            due.is("point(0, 1, 0, " + far + ")", x.point(0, 1, 0, far), NONE);
            due.is("point(0, 1, 1, " + far + ")", x.point(0, 1, 1, far), NONE);
        }
        point(x, 1, 0, 0, NONE, NONE);
        point(x, 0, 0, 0, NONE, NONE);
        place(x, 5, NONE, NONE);
    }
}
