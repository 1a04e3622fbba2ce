import java.util.ArrayList;
import java.util.List;
import java.util.Random;

/**
 * All promises: runs of calls by chance, from fixed seeds, against the plainest way to do them. An
 * object answers 512 calls: where a run asks more, it goes on with a new one to which all changes of
 * the run were made again.
 */
public final class PlainTest {
    private static final int RUNS = 400;
    private static final int CALLS = 512;
    private static final int CALLS_OF_AN_OBJECT = 512;
    private static final int MOST_CHANGES = 350;
    private static final int FLOW = 0;
    private static final int SET = 1;
    private static final int KEEP = 2;
    private static final int FORGET = 3;
    private static final int CLEAR = 4;
    private static final Due due = new Due("PlainTest");

    private final Random random;
    private final List<int[]> changes = new ArrayList<>();
    private RibbonSetter object = new RibbonSetter();
    private int calls = 0;
    private final PlainSetter plain = new PlainSetter();
    private final int seed;
    private final int places;
    private final int most;
    private final int backward;
    private final int widest;

    private PlainTest(int seed) {
        this.seed = seed;
        random = new Random(seed);
        places = 3 + random.nextInt(8);
        most = 2 + random.nextInt(16);
        backward = random.nextInt(4) * 15;
        widest = random.nextBoolean() ? 99 : 3;
    }

    public static void main(String[] args) {
        int whole = 0;
        int byLayer = 0;
        for (int seed = 1; seed <= RUNS && !due.failed(); seed++) {
            PlainTest test = new PlainTest(seed);
            test.run();
            whole += test.plain.triedWhole;
            byLayer += test.plain.triedByLayer;
        }
        System.out.println("PlainTest: " + whole + " orders tried whole, " + byLayer + " by layers");
        due.end();
    }

    private void run() {
        for (int call = 0; call < CALLS && !due.failed(); call++) {
            if (random.nextInt(100) < 12 && changes.size() < MOST_CHANGES) {
                change();
            } else {
                ask();
            }
            if (call % 128 == 127) {
                askAll();
            }
        }
    }

    /** The object, for one call more. */
    private RibbonSetter x() {
        if (calls == CALLS_OF_AN_OBJECT) {
            object = new RibbonSetter();
            calls = changes.size();
            for (int[] change : changes) {
                make(object, change);
            }
        }
        calls++;
        return object;
    }

    private static boolean make(RibbonSetter object, int[] change) {
        switch (change[0]) {
            case FLOW: return object.flow(change[1], change[2], change[3]);
            case SET: return object.set(change[1], change[2]);
            case KEEP: return object.keep();
            case FORGET: object.forget(); return true;
            default: object.clear(); return true;
        }
    }

    private void change(String name, boolean want, int... change) {
        boolean got = make(x(), change);
        changes.add(change);
        due.is("seed " + seed + ": " + name, got, want);
    }

    private int chance(int bound) {
        return random.nextInt(bound);
    }

    // Mostly within what there is, now and then right outside, or anywhere.
    private int about(int bound) {
        if (chance(20) > 0) {
            return chance(bound);
        }
        switch (chance(6)) {
            case 0: return random.nextInt();
            case 1: return chance(2) == 0 ? Integer.MIN_VALUE : Integer.MAX_VALUE;
            case 2: case 3: return -1;
            default: return bound;
        }
    }

    private void is(String call, int got, int want) {
        due.is("seed " + seed + ": " + call, got, want);
    }

    private void change() {
        int kind = chance(100);
        if (kind < 75) {
            changeFlow();
        } else if (kind < 84) {
            int gap = about(51);
            int price = chance(3) == 0 ? about(10000) : about(3 * widest);
            change("set", plain.set(gap, price), SET, gap, price);
        } else if (kind < 95) {
            change("keep", plain.keep(), KEEP);
        } else if (kind < 98) {
            plain.forget();
            change("forget", true, FORGET);
        } else {
            plain.clear();
            change("clear", true, CLEAR);
        }
    }

    private void changeFlow() {
        int times = chance(8) == 0 ? most : 1;
        for (int i = 0; i < times; i++) {
            int a = about(places);
            int b = about(places);
            if (a > b && chance(100) >= backward) {
                int other = a;
                a = b;
                b = other;
            }
            boolean goes = plain.about(0) >= most || chance(8) == 0;
            int width = goes ? 0 : 1 + chance(widest);
            if (chance(30) == 0) {
                width = about(100);
            }
            change("flow", plain.flow(a, b, width), FLOW, a, b, width);
        }
    }

    private void ask() {
        int a = about(places);
        int b = about(places);
        int l = about(10);
        int what = about(2);
        switch (chance(14)) {
            case 0: askAbout(about(8)); break;
            case 1: is("width " + a + " " + b, x().width(a, b), plain.width(a, b)); break;
            case 2: is("turned " + a + " " + b, x().turned(a, b), plain.turned(a, b)); break;
            case 3: is("row " + l, x().row(l), plain.row(l)); break;
            case 4: is("layer " + a, x().layer(a), plain.layer(a)); break;
            case 5: is("rest " + a, x().rest(a), plain.rest(a)); break;
            case 6: is("cost", x().cost(), plain.cost()); break;
            case 7: askPart(about(3)); break;
            case 8: is("items " + l, x().items(l), plain.items(l)); break;
            case 9: askItem(l, about(5)); break;
            case 10: askPlace(a, what); break;
            case 11: case 12: askPoint(a, b, about(4), what); break;
            default: is("orders", x().orders(), plain.orders()); break;
        }
    }

    private void askAbout(int what) {
        is("about " + what, x().about(what), plain.about(what));
    }

    private void askPart(int what) {
        is("part " + what, x().part(what), plain.part(what));
    }

    private void askItem(int l, int i) {
        is("item " + l + " " + i, x().item(l, i), plain.item(l, i));
    }

    private void askPlace(int p, int what) {
        is("place " + p + " " + what, x().place(p, what), plain.place(p, what));
    }

    private void askPoint(int a, int b, int l, int what) {
        is("point " + a + " " + b + " " + l + " " + what, x().point(a, b, l, what), plain.point(a, b, l, what));
    }

    private void askAll() {
        is("cost", x().cost(), plain.cost());
        is("orders", x().orders(), plain.orders());
        for (int i = -1; i <= 10; i++) {
            askAbout(i);
            askPart(i);
            is("row " + i, x().row(i), plain.row(i));
            is("layer " + i, x().layer(i), plain.layer(i));
            is("rest " + i, x().rest(i), plain.rest(i));
            is("items " + i, x().items(i), plain.items(i));
            for (int j = -1; j <= 10; j++) {
                askItem(i, j);
                askPlace(i, j);
                is("width " + i + " " + j, x().width(i, j), plain.width(i, j));
                is("turned " + i + " " + j, x().turned(i, j), plain.turned(i, j));
                int last = plain.width(i, j) > 0 ? 10 : 0;
                for (int l = -1; l <= last; l++) {
                    askPoint(i, j, l, 0);
                    askPoint(i, j, l, 1);
                }
            }
        }
    }
}
