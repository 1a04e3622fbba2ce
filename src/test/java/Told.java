/**
 * What an object tells in all, as one text, so that two objects can be held side by side. It is for
 * small drawings: an object answers 512 calls, and the telling takes one for each answer.
 */
final class Told {
    private static final int MOST_CALLS = 480;

    private final RibbonSetter x;
    private final StringBuilder text = new StringBuilder();
    private int calls = 0;

    private Told(RibbonSetter x) {
        this.x = x;
    }

    static String of(RibbonSetter x) {
        Told told = new Told(x);
        told.line("about", told.abouts());
        told.places();
        told.flows();
        told.layers();
        if (told.calls > MOST_CALLS) {
            throw new IllegalStateException("too large a drawing: " + told.calls + " calls");
        }
        return told.text.toString();
    }

    /** A new object with FLOWS, each told by three numbers: from, to, WIDTH. */
    static RibbonSetter with(int... flows) {
        RibbonSetter x = new RibbonSetter();
        add(x, flows);
        return x;
    }

    static void add(RibbonSetter x, int... flows) {
        for (int i = 0; i + 2 < flows.length; i += 3) {
            if (!x.flow(flows[i], flows[i + 1], flows[i + 2])) {
                throw new IllegalStateException("refused: flow " + i / 3);
            }
        }
    }

    private void line(String name, int... answers) {
        calls += answers.length;
        text.append(name);
        for (int answer : answers) {
            text.append(' ').append(answer);
        }
        text.append('\n');
    }

    private int[] abouts() {
        int[] answers = new int[8];
        for (int what = 0; what < answers.length; what++) {
            answers[what] = x.about(what);
        }
        return answers;
    }

    private void places() {
        for (int p = 0; p < 10; p++) {
            line("place " + p, x.row(p), x.layer(p), x.rest(p), x.place(p, 0), x.place(p, 1));
        }
    }

    private void flows() {
        int layers = x.about(4);
        for (int a = 0; a < 10; a++) {
            for (int b = 0; b < 10; b++) {
                calls++;
                if (a != b && x.width(a, b) > 0) {
                    line("flow " + a + " " + b, x.width(a, b), x.turned(a, b));
                    for (int l = 0; l < layers; l++) {
                        line("  in " + l, x.point(a, b, l, 0), x.point(a, b, l, 1));
                    }
                }
            }
        }
    }

    private void layers() {
        line("order", x.cost(), x.orders(), x.part(0), x.part(1), x.part(2));
        int layers = x.about(4);
        for (int l = 0; l < layers; l++) {
            line("layer " + l, x.items(l), x.item(l, 0), x.item(l, 1), x.item(l, 2), x.item(l, 3), x.item(l, 4));
        }
    }
}
