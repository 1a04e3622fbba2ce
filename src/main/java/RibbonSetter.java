import java.util.Arrays;

/**
 * A setter of flow drawings: flows between places are drawn as ribbons by layers. The words of
 * the document (place, flow, row, turned, layer, bead, item, link, order, kept) mean here what
 * they mean there.
 */
public final class RibbonSetter {
    public static final int NONE = -1;

    private static final int PLACES = 10;
    private static final int MOST_FLOWS = 16;
    private static final int MOST_WIDTH = 99;
    private static final int MOST_ITEMS = 5;
    private static final int MOST_ORDERS = 120;
    private static final int MOST_GAP = 50;
    private static final int FIRST_GAP = 4;
    private static final int MOST_PRICE = 9999;
    private static final int FIRST_BEAD = 100;
    private static final int NO_REST = NONE - 9999;

    private final Flows flows = new Flows();
    private final Ranking ranking = new Ranking(flows);
    private final Sheet sheet = new Sheet(ranking);
    private final Kept kept = new Kept();
    private final Search search = new Search(ranking, sheet, kept);
    private final Drawing drawing = new Drawing(ranking, search);
    private int gap = FIRST_GAP;
    private int price = 0;
    private boolean ranked = false;
    private boolean ordered = false;

    public RibbonSetter() {
    }

    public boolean flow(int a, int b, int width) {
        if (!flows.takes(a, b, width)) {
            return false;
        }
        if (flows.between(a, b) != width) {
            flows.put(a, b, width);
            ranked = false;
            ordered = false;
        }
        return true;
    }

    public void clear() {
        flows.removeAll();
        ranked = false;
        ordered = false;
    }

    public boolean set(int gap, int price) {
        if (gap < 0 || gap > MOST_GAP || price < 0 || price > MOST_PRICE) {
            return false;
        }
        // GAP is no part of any cost, so only a new PRICE asks for a new search.
        if (this.price != price) {
            ordered = false;
        }
        this.gap = gap;
        this.price = price;
        return true;
    }

    public int about(int what) {
        switch (what) {
            case 0:
                return flows.number();
            case 1:
                return flows.sum();
            case 2:
                return freshRanking().turnedNumber();
            case 3:
                return freshRanking().turnedSum();
            case 4:
                return freshRanking().layers();
            case 5:
                return gap;
            case 6:
                return price;
            case 7:
                return kept.holds() ? 1 : 0;
            default:
                return NONE;
        }
    }

    public int width(int a, int b) {
        return flows.between(a, b);
    }

    public int turned(int a, int b) {
        if (flows.between(a, b) == 0) {
            return NONE;
        }
        return freshRanking().turns(a, b) ? 1 : 0;
    }

    public int row(int i) {
        return freshRanking().placeAt(i);
    }

    public int layer(int p) {
        return isPlace(p) ? freshRanking().layerOf(p) : NONE;
    }

    public int rest(int p) {
        return isPlace(p) ? flows.comingTo(p) - flows.goingFrom(p) : NO_REST;
    }

    public int cost() {
        return isDrawn() ? search.leastCost() : NONE;
    }

    public int part(int what) {
        if (!isDrawn()) {
            return NONE;
        }
        switch (what) {
            case 0:
                return search.crossCost();
            case 1:
                return search.crossPairs();
            case 2:
                return search.movedPairs();
            default:
                return NONE;
        }
    }

    public int items(int l) {
        return isLayer(l) ? sheet.countIn(l) : NONE;
    }

    public int item(int l, int i) {
        if (!isLayer(l) || !isDrawn()) {
            return NONE;
        }
        return search.shownAt(l, i);
    }

    public int place(int p, int what) {
        if (!isPlace(p) || what < 0 || what > 1 || !isDrawn()) {
            return NONE;
        }
        int l = ranking.layerOf(p);
        if (l == NONE) {
            return NONE;
        }
        int top = drawing.topOf(l, p, gap);
        return what == 0 ? top : top + drawing.sizeOf(p);
    }

    public int point(int a, int b, int l, int what) {
        if (flows.between(a, b) == 0 || !isDrawn() || ranking.turns(a, b)) {
            return NONE;
        }
        if (l < ranking.layerOf(a) || l > ranking.layerOf(b)) {
            return NONE;
        }
        if (what == 0) {
            return drawing.endOf(a, b, l, gap);
        }
        return what == 1 ? drawing.beginOf(a, b, l, gap) : NONE;
    }

    public boolean keep() {
        if (!isDrawn()) {
            return false;
        }
        kept.empty();
        for (int l = 0; l < ranking.layers(); l++) {
            for (int i = 0; i < sheet.countIn(l); i++) {
                kept.note(search.shownAt(l, i), l, i);
            }
        }
        kept.hold();
        ordered = false;
        return true;
    }

    public void forget() {
        if (kept.holds()) {
            kept.empty();
            ordered = false;
        }
    }

    public int orders() {
        return isDrawn() ? search.leastWays() : NONE;
    }

    private static boolean isPlace(int p) {
        return p >= 0 && p < PLACES;
    }

    private static boolean arePlaces(int a, int b) {
        return a >= 0 && a < PLACES && b >= 0 && b < PLACES;
    }

    /** One number for two indexes of ITEMS in a LAYER. */
    private static int pair(int one, int other) {
        return one * MOST_ITEMS + other;
    }

    private Ranking freshRanking() {
        if (!ranked) {
            ranking.rank();
            sheet.fill();
            ranked = true;
        }
        return ranking;
    }

    private boolean isLayer(int l) {
        return l >= 0 && l < freshRanking().layers();
    }

    private boolean isDrawn() {
        freshRanking();
        if (!sheet.fits()) {
            return false;
        }
        if (!ordered) {
            search.solve(price);
            ordered = true;
        }
        return true;
    }

    /** The FLOWS with their WIDTHS. */
    private static final class Flows {
        private final int[] widths = new int[PLACES * PLACES];
        private int number = 0;

        int number() {
            return number;
        }

        int between(int a, int b) {
            return arePlaces(a, b) ? widths[a * PLACES + b] : 0;
        }

        boolean takes(int a, int b, int width) {
            if (!arePlaces(a, b) || a == b || width < 0 || width > MOST_WIDTH) {
                return false;
            }
            return width == 0 || between(a, b) > 0 || number < MOST_FLOWS;
        }

        void put(int a, int b, int width) {
            if (!takes(a, b, width)) {
                return;
            }
            number += (width > 0 ? 1 : 0) - (between(a, b) > 0 ? 1 : 0);
            widths[a * PLACES + b] = width;
        }

        void removeAll() {
            Arrays.fill(widths, 0);
            number = 0;
        }

        int sum() {
            int sum = 0;
            for (int width : widths) {
                sum += width;
            }
            return sum;
        }

        int comingTo(int p) {
            int sum = 0;
            for (int a = 0; a < PLACES; a++) {
                sum += between(a, p);
            }
            return sum;
        }

        int goingFrom(int p) {
            int sum = 0;
            for (int b = 0; b < PLACES; b++) {
                sum += between(p, b);
            }
            return sum;
        }

        boolean uses(int p) {
            for (int other = 0; other < PLACES; other++) {
                if (widths[p * PLACES + other] > 0 || widths[other * PLACES + p] > 0) {
                    return true;
                }
            }
            return false;
        }
    }

    /**
     * THE ROW, what is TURNED by it, and the LAYERS. Sets of USED PLACES are bits, the least
     * PLACE the lowest: the least sum of every set that may be the end of a row is found from
     * that of the lesser sets, so that no row need be tried whole.
     */
    private static final class Ranking {
        private final Flows flows;
        private final int[] used = new int[PLACES];
        private int usedNumber = 0;
        private final int[] firstSource = new int[PLACES + 1];
        private final int[] sourceBit = new int[MOST_FLOWS];
        private final int[] sourceWidth = new int[MOST_FLOWS];
        private final int[] least = new int[1 << PLACES];
        private final int[] row = new int[PLACES];
        private final int[] spots = new int[PLACES];
        private final int[] layers = new int[PLACES];
        private final int[] straights = new int[PLACES * PLACES];
        private int layerNumber = 0;
        private int turnedNumber = 0;
        private int turnedSum = 0;

        Ranking(Flows flows) {
            this.flows = flows;
        }

        void rank() {
            gatherUsed();
            gatherSources();
            weighSets();
            lineUp();
            partFlows();
            putInLayers();
        }

        int placeAt(int i) {
            return i >= 0 && i < usedNumber ? row[i] : NONE;
        }

        int layerOf(int p) {
            return layers[p];
        }

        int layers() {
            return layerNumber;
        }

        int turnedNumber() {
            return turnedNumber;
        }

        int turnedSum() {
            return turnedSum;
        }

        /** Whether a FLOW from a to b, if there is one, is TURNED. */
        boolean turns(int a, int b) {
            return spots[b] < spots[a];
        }

        /** The WIDTH of the FLOW from a to b, if it is not TURNED; else 0. */
        int straight(int a, int b) {
            return arePlaces(a, b) ? straights[a * PLACES + b] : 0;
        }

        /** Whether a FLOW that is not TURNED has a LINK from LAYER l to the next one. */
        boolean links(int a, int b, int l) {
            return straights[a * PLACES + b] > 0 && layers[a] <= l && l < layers[b];
        }

        /** The ITEM by which the FLOW from a to b is in LAYER l. */
        int itemOf(int a, int b, int l) {
            if (l == layers[a]) {
                return a;
            }
            return l == layers[b] ? b : FIRST_BEAD + 10 * a + b;
        }

        private void gatherUsed() {
            usedNumber = 0;
            for (int p = 0; p < PLACES; p++) {
                if (flows.uses(p)) {
                    used[usedNumber] = p;
                    usedNumber++;
                }
            }
        }

        private void gatherSources() {
            int k = 0;
            for (int i = 0; i < usedNumber; i++) {
                firstSource[i] = k;
                for (int j = 0; j < usedNumber; j++) {
                    int width = flows.between(used[j], used[i]);
                    if (width > 0 && k < MOST_FLOWS) {
                        sourceBit[k] = 1 << j;
                        sourceWidth[k] = width;
                        k++;
                    }
                }
            }
            firstSource[usedNumber] = k;
        }

        private void weighSets() {
            least[0] = 0;
            for (int set = 1; set < 1 << usedNumber; set++) {
                int best = Integer.MAX_VALUE;
                for (int i = 0; i < usedNumber; i++) {
                    int bit = 1 << i;
                    if ((set & bit) != 0) {
                        best = Math.min(best, sumWithFirst(i, set ^ bit));
                    }
                }
                least[set] = best;
            }
        }

        /** The least sum of a row's end that has the i-th USED PLACE ahead of those in the set. */
        private int sumWithFirst(int i, int set) {
            int sum = least[set];
            for (int k = firstSource[i]; k < firstSource[i + 1]; k++) {
                if ((set & sourceBit[k]) != 0) {
                    sum += sourceWidth[k];
                }
            }
            return sum;
        }

        private void lineUp() {
            Arrays.fill(spots, NONE);
            int left = (1 << usedNumber) - 1;
            for (int spot = 0; spot < usedNumber; spot++) {
                int i = firstOf(left);
                row[spot] = used[i];
                spots[used[i]] = spot;
                left &= ~(1 << i);
            }
        }

        private int firstOf(int set) {
            for (int i = 0; i < usedNumber; i++) {
                int bit = 1 << i;
                if ((set & bit) != 0 && sumWithFirst(i, set ^ bit) == least[set]) {
                    return i;
                }
            }
            return 0;
        }

        private void partFlows() {
            Arrays.fill(straights, 0);
            turnedNumber = 0;
            turnedSum = 0;
            for (int a = 0; a < PLACES; a++) {
                for (int b = 0; b < PLACES; b++) {
                    int width = flows.between(a, b);
                    if (width > 0 && turns(a, b)) {
                        turnedNumber++;
                        turnedSum += width;
                    } else {
                        straights[a * PLACES + b] = width;
                    }
                }
            }
        }

        // A FLOW that is not TURNED comes from a PLACE ahead in THE ROW, whose LAYER stands by then.
        private void putInLayers() {
            Arrays.fill(layers, NONE);
            layerNumber = 0;
            for (int i = 0; i < usedNumber; i++) {
                int deepest = 0;
                for (int j = 0; j < i; j++) {
                    if (straight(row[j], row[i]) > 0) {
                        deepest = Math.max(deepest, layers[row[j]] + 1);
                    }
                }
                layers[row[i]] = deepest;
                layerNumber = Math.max(layerNumber, deepest + 1);
            }
        }
    }

    /** The ITEMS of each LAYER, by their numbers. */
    private static final class Sheet {
        private final Ranking ranking;
        private final int[][] numbers = new int[PLACES][PLACES + MOST_FLOWS];
        // One LAYER more than there can be: behind the last one there is always an empty one.
        private final int[] counts = new int[PLACES + 1];

        Sheet(Ranking ranking) {
            this.ranking = ranking;
        }

        /** Takes PLACES ahead of BEADS, each by number, so that every LAYER comes out sorted. */
        void fill() {
            Arrays.fill(counts, 0);
            for (int p = 0; p < PLACES; p++) {
                if (ranking.layerOf(p) != NONE) {
                    add(ranking.layerOf(p), p);
                }
            }
            for (int a = 0; a < PLACES; a++) {
                for (int b = 0; b < PLACES; b++) {
                    if (ranking.straight(a, b) > 0) {
                        addBeads(a, b);
                    }
                }
            }
        }

        boolean fits() {
            for (int count : counts) {
                if (count > MOST_ITEMS) {
                    return false;
                }
            }
            return true;
        }

        int countIn(int l) {
            return counts[l];
        }

        int numberAt(int l, int i) {
            return numbers[l][i];
        }

        int indexOf(int l, int number) {
            for (int i = 0; i < counts[l]; i++) {
                if (numbers[l][i] == number) {
                    return i;
                }
            }
            return NONE;
        }

        private void addBeads(int a, int b) {
            for (int l = ranking.layerOf(a) + 1; l < ranking.layerOf(b); l++) {
                add(l, FIRST_BEAD + 10 * a + b);
            }
        }

        private void add(int l, int number) {
            if (counts[l] < numbers[l].length) {
                numbers[l][counts[l]] = number;
                counts[l]++;
            }
        }
    }

    /** Where the PLACES stood in the ORDER that was KEPT. */
    private static final class Kept {
        private final int[] layers = new int[PLACES];
        private final int[] spots = new int[PLACES];
        private boolean holds = false;

        Kept() {
            Arrays.fill(layers, NONE);
        }

        boolean holds() {
            return holds;
        }

        void hold() {
            holds = true;
        }

        void empty() {
            Arrays.fill(layers, NONE);
            holds = false;
        }

        void note(int number, int l, int spot) {
            if (isPlace(number)) {
                layers[number] = l;
                spots[number] = spot;
            }
        }

        /** 1 if the two MOVE when the one stands above the other; BEADS never do. */
        int moves(int upper, int lower) {
            if (!arePlaces(upper, lower) || layers[upper] == NONE) {
                return 0;
            }
            return layers[upper] == layers[lower] && spots[upper] > spots[lower] ? 1 : 0;
        }
    }

    /**
     * All orders of some things, each made from the one ahead of it by an exchange of two
     * neighbours: so the cost of the next order is told by one pair alone.
     */
    private static final class Changes {
        private final int size;
        private final int number;
        private final int[] things;
        private final int[] exchanged;
        private final int[] ranks;

        /** The one order of no things. */
        Changes() {
            size = 0;
            number = 1;
            things = new int[0];
            exchanged = new int[1];
            ranks = new int[1];
        }

        /** One thing more: it goes up through each lesser order, and down through the next. */
        Changes(Changes lesser) {
            size = lesser.size + 1;
            number = lesser.number * size;
            things = new int[number * size];
            exchanged = new int[number];
            ranks = new int[number];
            for (int old = 0; old < lesser.number; old++) {
                for (int step = 0; step < size; step++) {
                    int k = old * size + step;
                    insert(lesser, old, k, old % 2 == 0 ? size - 1 - step : step);
                    exchanged[k] = k == 0 ? 0 : exchangeBefore(k);
                    ranks[k] = rankOf(k);
                }
            }
        }

        int number() {
            return number;
        }

        int thingAt(int k, int spot) {
            return things[k * size + spot];
        }

        /** For each order the pair of things that were exchanged to make it, as they stood before. */
        int[] exchanged() {
            return exchanged;
        }

        /** Of two orders the one with the lesser rank is the first by its things. */
        int rankAt(int k) {
            return ranks[k];
        }

        private void insert(Changes lesser, int old, int k, int spot) {
            for (int i = 0; i < size; i++) {
                int thing = size - 1;
                if (i != spot) {
                    thing = lesser.thingAt(old, i < spot ? i : i - 1);
                }
                things[k * size + i] = thing;
            }
        }

        private int exchangeBefore(int k) {
            for (int i = 0; i < size - 1; i++) {
                if (thingAt(k - 1, i) != thingAt(k, i)) {
                    return pair(thingAt(k - 1, i), thingAt(k, i));
                }
            }
            return 0;
        }

        private int rankOf(int k) {
            int rank = 0;
            for (int i = 0; i < size; i++) {
                rank = rank * MOST_ITEMS + thingAt(k, i);
            }
            return rank;
        }
    }

    /**
     * What stands between a LAYER and the next one: the WIDTHS of the LINKS by the ITEMS'
     * indexes, and, for one order of the next LAYER, what the orders of this LAYER cost. That is
     * the base, the cost of the order by numbers, and for each pair the gain, what is added when
     * the first of the two, right above the second, is exchanged with it.
     */
    private static final class Joint {
        private final Ranking ranking;
        private final Sheet sheet;
        private final Kept kept;
        private final int[] links = new int[MOST_ITEMS * MOST_ITEMS];
        private final int[] gains = new int[MOST_ITEMS * MOST_ITEMS];
        private int base = 0;

        Joint(Ranking ranking, Sheet sheet, Kept kept) {
            this.ranking = ranking;
            this.sheet = sheet;
            this.kept = kept;
        }

        int base() {
            return base;
        }

        int[] gains() {
            return gains;
        }

        void gatherLinks(int l) {
            Arrays.fill(links, 0);
            for (int a = 0; a < PLACES; a++) {
                for (int b = 0; b < PLACES; b++) {
                    if (ranking.links(a, b, l)) {
                        int from = sheet.indexOf(l, ranking.itemOf(a, b, l));
                        int to = sheet.indexOf(l + 1, ranking.itemOf(a, b, l + 1));
                        putLink(from, to, ranking.straight(a, b));
                    }
                }
            }
        }

        /** The costs while the next LAYER stands by numbers. */
        void begin(int l, int price) {
            int count = sheet.countIn(l);
            int nextCount = sheet.countIn(l + 1);
            base = 0;
            for (int i = 0; i < count; i++) {
                for (int j = i + 1; j < count; j++) {
                    int p = sheet.numberAt(l, i);
                    int q = sheet.numberAt(l, j);
                    int asNumbered = price * kept.moves(p, q);
                    int otherwise = price * kept.moves(q, p);
                    for (int u = 0; u < nextCount; u++) {
                        for (int v = u + 1; v < nextCount; v++) {
                            asNumbered += crossing(i, j, u, v);
                            otherwise += crossing(j, i, u, v);
                        }
                    }
                    base += asNumbered;
                    gains[pair(i, j)] = otherwise - asNumbered;
                    gains[pair(j, i)] = asNumbered - otherwise;
                }
            }
        }

        /** Two neighbours of the next LAYER are exchanged: only LINKS to these two cost anew. */
        void exchangeNext(int l, int exchanged) {
            int upper = exchanged / MOST_ITEMS;
            int lower = exchanged % MOST_ITEMS;
            int count = sheet.countIn(l);
            for (int i = 0; i < count; i++) {
                for (int j = i + 1; j < count; j++) {
                    int more = crossing(i, j, lower, upper) - crossing(i, j, upper, lower);
                    base += more;
                    gains[pair(i, j)] -= 2 * more;
                    gains[pair(j, i)] += 2 * more;
                }
            }
        }

        /** What LINKS from i, above j, to v, below u, cost with those from j to u; 0 if none are. */
        int crossing(int i, int j, int u, int v) {
            return links[pair(i, v)] * links[pair(j, u)];
        }

        private void putLink(int from, int to, int width) {
            if (from >= 0 && from < MOST_ITEMS && to >= 0 && to < MOST_ITEMS) {
                links[pair(from, to)] = width;
            }
        }
    }

    /**
     * The search for THE ORDER: from the last LAYER to the first, for each order of a LAYER the
     * least cost from there on, in how many ways it is had, and the first order of the next LAYER
     * by which it is had. It is only asked while every LAYER has at most MOST_ITEMS ITEMS.
     */
    private static final class Search {
        private final Ranking ranking;
        private final Sheet sheet;
        private final Kept kept;
        private final Joint joint;
        private final Changes[] changes = new Changes[MOST_ITEMS + 1];
        private final int[][] least = new int[PLACES + 1][MOST_ORDERS];
        private final int[][] ways = new int[PLACES + 1][MOST_ORDERS];
        private final int[][] nexts = new int[PLACES + 1][MOST_ORDERS];
        private final int[] chosen = new int[PLACES + 1];
        private int leastCost = 0;
        private int leastWays = 0;
        private int crossCost = 0;
        private int crossPairs = 0;
        private int movedPairs = 0;

        Search(Ranking ranking, Sheet sheet, Kept kept) {
            this.ranking = ranking;
            this.sheet = sheet;
            this.kept = kept;
            joint = new Joint(ranking, sheet, kept);
            changes[0] = new Changes();
            for (int n = 1; n <= MOST_ITEMS; n++) {
                changes[n] = new Changes(changes[n - 1]);
            }
        }

        int leastCost() {
            return leastCost;
        }

        int leastWays() {
            return leastWays;
        }

        int crossCost() {
            return crossCost;
        }

        int crossPairs() {
            return crossPairs;
        }

        int movedPairs() {
            return movedPairs;
        }

        void solve(int price) {
            int layers = ranking.layers();
            least[layers][0] = 0;
            ways[layers][0] = 1;
            for (int l = layers - 1; l >= 0; l--) {
                searchLayer(l, price);
            }
            chooseFirst();
            for (int l = 0; l < layers; l++) {
                chosen[l + 1] = nexts[l][chosen[l]];
            }
            countParts(layers);
        }

        /** The i-th ITEM of LAYER l in THE ORDER. */
        int shownAt(int l, int i) {
            if (i < 0 || i >= sheet.countIn(l)) {
                return NONE;
            }
            return sheet.numberAt(l, changesOf(l).thingAt(chosen[l], i));
        }

        int spotOf(int l, int number) {
            for (int i = 0; i < sheet.countIn(l); i++) {
                if (shownAt(l, i) == number) {
                    return i;
                }
            }
            return NONE;
        }

        private Changes changesOf(int l) {
            return changes[Math.min(sheet.countIn(l), MOST_ITEMS)];
        }

        private void searchLayer(int l, int price) {
            Changes next = changesOf(l + 1);
            joint.gatherLinks(l);
            joint.begin(l, price);
            Arrays.fill(least[l], Integer.MAX_VALUE);
            for (int t = 0; t < next.number(); t++) {
                if (t > 0) {
                    joint.exchangeNext(l, next.exchanged()[t]);
                }
                tryNext(l, t, next);
            }
        }

        private void tryNext(int l, int t, Changes next) {
            int[] exchanged = changesOf(l).exchanged();
            int[] gains = joint.gains();
            int[] best = least[l];
            int more = ways[l + 1][t];
            int cost = joint.base() + least[l + 1][t];
            for (int s = 0; s < exchanged.length; s++) {
                if (s > 0) {
                    cost += gains[exchanged[s]];
                }
                if (cost < best[s]) {
                    best[s] = cost;
                    ways[l][s] = more;
                    nexts[l][s] = t;
                } else if (cost == best[s]) {
                    ways[l][s] += more;
                    if (next.rankAt(t) < next.rankAt(nexts[l][s])) {
                        nexts[l][s] = t;
                    }
                }
            }
        }

        private void chooseFirst() {
            Changes first = changesOf(0);
            leastCost = Integer.MAX_VALUE;
            leastWays = 0;
            for (int s = 0; s < first.number(); s++) {
                if (least[0][s] < leastCost) {
                    leastCost = least[0][s];
                    leastWays = ways[0][s];
                    chosen[0] = s;
                } else if (least[0][s] == leastCost) {
                    leastWays += ways[0][s];
                    if (first.rankAt(s) < first.rankAt(chosen[0])) {
                        chosen[0] = s;
                    }
                }
            }
        }

        private void countParts(int layers) {
            crossCost = 0;
            crossPairs = 0;
            movedPairs = 0;
            for (int l = 0; l < layers; l++) {
                joint.gatherLinks(l);
                for (int i = 0; i < sheet.countIn(l); i++) {
                    for (int j = i + 1; j < sheet.countIn(l); j++) {
                        movedPairs += kept.moves(shownAt(l, i), shownAt(l, j));
                        countCrosses(l, i, j);
                    }
                }
            }
        }

        private void countCrosses(int l, int i, int j) {
            int upper = changesOf(l).thingAt(chosen[l], i);
            int lower = changesOf(l).thingAt(chosen[l], j);
            Changes next = changesOf(l + 1);
            for (int u = 0; u < sheet.countIn(l + 1); u++) {
                for (int v = u + 1; v < sheet.countIn(l + 1); v++) {
                    int nextUpper = next.thingAt(chosen[l + 1], u);
                    int nextLower = next.thingAt(chosen[l + 1], v);
                    int crossing = joint.crossing(upper, lower, nextUpper, nextLower);
                    crossCost += crossing;
                    crossPairs += crossing > 0 ? 1 : 0;
                }
            }
        }
    }

    /** Where THE ORDER's ITEMS and LINKS lie, in points from the top. */
    private static final class Drawing {
        private final Ranking ranking;
        private final Search search;

        Drawing(Ranking ranking, Search search) {
            this.ranking = ranking;
            this.search = search;
        }

        int sizeOf(int number) {
            if (!isPlace(number)) {
                int ends = number - FIRST_BEAD;
                return ranking.straight(ends / 10, ends % 10);
            }
            int coming = 0;
            int going = 0;
            for (int p = 0; p < PLACES; p++) {
                coming += ranking.straight(p, number);
                going += ranking.straight(number, p);
            }
            return Math.max(1, Math.max(coming, going));
        }

        int topOf(int l, int number, int gap) {
            int spot = search.spotOf(l, number);
            int top = 0;
            for (int i = 0; i < spot; i++) {
                top += sizeOf(search.shownAt(l, i)) + gap;
            }
            return top;
        }

        /** Where a LINK of the FLOW from a to b ends in LAYER l. */
        int endOf(int a, int b, int l, int gap) {
            if (l == ranking.layerOf(a)) {
                return NONE;
            }
            int point = topOf(l, ranking.itemOf(a, b, l), gap);
            if (l != ranking.layerOf(b)) {
                return point;
            }
            int spot = search.spotOf(l - 1, ranking.itemOf(a, b, l - 1));
            for (int p = 0; p < PLACES; p++) {
                int width = ranking.straight(p, b);
                if (width > 0 && search.spotOf(l - 1, ranking.itemOf(p, b, l - 1)) < spot) {
                    point += width;
                }
            }
            return point;
        }

        /** Where a LINK of the FLOW from a to b begins in LAYER l. */
        int beginOf(int a, int b, int l, int gap) {
            if (l == ranking.layerOf(b)) {
                return NONE;
            }
            int point = topOf(l, ranking.itemOf(a, b, l), gap);
            if (l != ranking.layerOf(a)) {
                return point;
            }
            int spot = search.spotOf(l + 1, ranking.itemOf(a, b, l + 1));
            for (int p = 0; p < PLACES; p++) {
                int width = ranking.straight(a, p);
                if (width > 0 && search.spotOf(l + 1, ranking.itemOf(a, p, l + 1)) < spot) {
                    point += width;
                }
            }
            return point;
        }
    }
}
