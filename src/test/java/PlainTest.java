import java.util.Random;

/** All promises: runs of calls by chance, from fixed seeds, against the plainest way to do them. */
public final class PlainTest {
    private static final int RUNS = 400;
    private static final int CALLS = 512;
    private static final Due due = new Due("PlainTest");

    private final Random random;
    private final RibbonSetter x = new RibbonSetter();
    private final PlainSetter plain = new PlainSetter();
    private final int seed;
    private final int places;
    private final int most;
    private final int backward;
    private final int widest;

    private PlainTest(int seed) {
        this.seed = seed;
        random = new Random(seed);
        places = 3 + random.nextInt(8);
        most = 2 + random.nextInt(16);
        backward = random.nextInt(4) * 15;
        widest = random.nextBoolean() ? 99 : 3;
    }

    public static void main(String[] args) {
        int whole = 0;
        int byLayer = 0;
        for (int seed = 1; seed <= RUNS && !due.failed(); seed++) {
            PlainTest test = new PlainTest(seed);
            test.run();
            whole += test.plain.triedWhole;
            byLayer += test.plain.triedByLayer;
        }
        System.out.println("PlainTest: " + whole + " orders tried whole, " + byLayer + " by layers");
        due.end();
    }

    private void run() {
        for (int call = 0; call < CALLS && !due.failed(); call++) {
            if (random.nextInt(100) < 12) {
                change();
            } else {
                ask();
            }
            if (call % 128 == 127) {
                askAll();
            }
        }
    }

    private int chance(int bound) {
        return random.nextInt(bound);
    }

    // Mostly within what there is, now and then right outside.
    private int about(int bound) {
        return chance(20) == 0 ? (chance(2) == 0 ? -1 : bound) : chance(bound);
    }

    private void is(String call, int got, int want) {
        due.is("seed " + seed + ": " + call, got, want);
    }

    private void change() {
        int kind = chance(100);
        if (kind < 75) {
            changeFlow();
        } else if (kind < 84) {
            int gap = about(51);
            int price = chance(3) == 0 ? about(10000) : about(3 * widest);
            due.is("seed " + seed + ": set", x.set(gap, price), plain.set(gap, price));
        } else if (kind < 95) {
            due.is("seed " + seed + ": keep", x.keep(), plain.keep());
        } else if (kind < 98) {
            x.forget();
            plain.forget();
        } else {
            x.clear();
            plain.clear();
        }
    }

    private void changeFlow() {
        int times = chance(8) == 0 ? most : 1;
        for (int i = 0; i < times; i++) {
            int a = about(places);
            int b = about(places);
            if (a > b && chance(100) >= backward) {
                int other = a;
                a = b;
                b = other;
            }
            boolean goes = plain.about(0) >= most || chance(8) == 0;
            int width = goes ? 0 : 1 + chance(widest);
            if (chance(30) == 0) {
                width = about(100);
            }
            due.is("seed " + seed + ": flow", x.flow(a, b, width), plain.flow(a, b, width));
        }
    }

    private void ask() {
        int a = about(places);
        int b = about(places);
        int l = about(10);
        int what = about(2);
        switch (chance(14)) {
            case 0: askAbout(about(8)); break;
            case 1: is("width " + a + " " + b, x.width(a, b), plain.width(a, b)); break;
            case 2: is("turned " + a + " " + b, x.turned(a, b), plain.turned(a, b)); break;
            case 3: is("row " + l, x.row(l), plain.row(l)); break;
            case 4: is("layer " + a, x.layer(a), plain.layer(a)); break;
            case 5: is("rest " + a, x.rest(a), plain.rest(a)); break;
            case 6: is("cost", x.cost(), plain.cost()); break;
            case 7: askPart(about(3)); break;
            case 8: is("items " + l, x.items(l), plain.items(l)); break;
            case 9: askItem(l, about(5)); break;
            case 10: askPlace(a, what); break;
            case 11: case 12: askPoint(a, b, about(4), what); break;
            default: is("orders", x.orders(), plain.orders()); break;
        }
    }

    private void askAbout(int what) {
        is("about " + what, x.about(what), plain.about(what));
    }

    private void askPart(int what) {
        is("part " + what, x.part(what), plain.part(what));
    }

    private void askItem(int l, int i) {
        is("item " + l + " " + i, x.item(l, i), plain.item(l, i));
    }

    private void askPlace(int p, int what) {
        is("place " + p + " " + what, x.place(p, what), plain.place(p, what));
    }

    private void askPoint(int a, int b, int l, int what) {
        is("point " + a + " " + b + " " + l + " " + what, x.point(a, b, l, what), plain.point(a, b, l, what));
    }

    private void askAll() {
        is("cost", x.cost(), plain.cost());
        is("orders", x.orders(), plain.orders());
        for (int i = -1; i <= 10; i++) {
            askAbout(i);
            askPart(i);
            is("row " + i, x.row(i), plain.row(i));
            is("layer " + i, x.layer(i), plain.layer(i));
            is("rest " + i, x.rest(i), plain.rest(i));
            is("items " + i, x.items(i), plain.items(i));
            for (int j = -1; j <= 10; j++) {
                askItem(i, j);
                askPlace(i, j);
                is("width " + i + " " + j, x.width(i, j), plain.width(i, j));
                is("turned " + i + " " + j, x.turned(i, j), plain.turned(i, j));
                for (int l = -1; l <= 10; l++) {
                    askPoint(i, j, l, 0);
                    askPoint(i, j, l, 1);
                }
            }
        }
    }
}
