import java.math.BigInteger;
import java.util.ArrayList;
import java.util.HashMap;
import java.util.List;
import java.util.Map;

/**
 * The document's words done in their plainest way, to hold RibbonSetter against: rows are tried
 * one by one, orders are tried one by one where they are few, and else layer by layer with every
 * pair of links looked at.
 */
final class PlainSetter {
    private static final int NONE = -1;
    private static final long FEW = 20000;

    private final int[][] widths = new int[10][10];
    private int gap = 4;
    private int price = 0;
    private List<List<Integer>> kept = null;

    private boolean fresh = false;
    private List<Integer> row;
    private int rowSum;
    private int[] layer;
    private List<List<Integer>> items;
    private List<List<int[]>> links;
    private boolean drawn;
    private List<List<Integer>> order;
    private int cost;
    private int orders;
    private int[] parts;
    private Map<Integer, Integer> tops;
    private Map<String, Integer> points;
    int triedWhole = 0;
    int triedByLayer = 0;

    boolean flow(int a, int b, int width) {
        if (out(a, 0, 9) || out(b, 0, 9) || a == b || out(width, 0, 99)) {
            return false;
        }
        if (width > 0 && widths[a][b] == 0 && about(0) == 16) {
            return false;
        }
        widths[a][b] = width;
        fresh = false;
        return true;
    }

    void clear() {
        for (int[] from : widths) {
            java.util.Arrays.fill(from, 0);
        }
        fresh = false;
    }

    boolean set(int gap, int price) {
        if (out(gap, 0, 50) || out(price, 0, 9999)) {
            return false;
        }
        this.gap = gap;
        this.price = price;
        fresh = false;
        return true;
    }

    int about(int what) {
        int count = 0;
        int sum = 0;
        int turned = 0;
        for (int a = 0; a < 10; a++) {
            for (int b = 0; b < 10; b++) {
                count += widths[a][b] > 0 ? 1 : 0;
                sum += widths[a][b];
                if (what == 2 || what == 3) {
                    turned += turned(a, b) == 1 ? (what == 2 ? 1 : widths[a][b]) : 0;
                }
            }
        }
        switch (what) {
            case 0: return count;
            case 1: return sum;
            case 2: case 3: return turned;
            case 4: refresh(); return items.size();
            case 5: return gap;
            case 6: return price;
            case 7: return kept != null ? 1 : 0;
            default: return NONE;
        }
    }

    int width(int a, int b) {
        return out(a, 0, 9) || out(b, 0, 9) ? 0 : widths[a][b];
    }

    int turned(int a, int b) {
        if (width(a, b) == 0) {
            return NONE;
        }
        refresh();
        return row.indexOf(b) < row.indexOf(a) ? 1 : 0;
    }

    int row(int i) {
        refresh();
        return out(i, 0, row.size() - 1) ? NONE : row.get(i);
    }

    int layer(int p) {
        refresh();
        return out(p, 0, 9) ? NONE : layer[p];
    }

    int rest(int p) {
        if (out(p, 0, 9)) {
            return -10000;
        }
        int rest = 0;
        for (int q = 0; q < 10; q++) {
            rest += widths[q][p] - widths[p][q];
        }
        return rest;
    }

    int cost() {
        refresh();
        return drawn ? cost : NONE;
    }

    int part(int what) {
        refresh();
        return !drawn || out(what, 0, 2) ? NONE : parts[what];
    }

    int items(int l) {
        refresh();
        return out(l, 0, items.size() - 1) ? NONE : items.get(l).size();
    }

    int item(int l, int i) {
        refresh();
        if (!drawn || out(l, 0, items.size() - 1) || out(i, 0, items.get(l).size() - 1)) {
            return NONE;
        }
        return order.get(l).get(i);
    }

    int place(int p, int what) {
        if (layer(p) == NONE || !drawn || out(what, 0, 1)) {
            return NONE;
        }
        int top = tops.get(1000 * layer[p] + p);
        return what == 0 ? top : top + size(p);
    }

    int point(int a, int b, int l, int what) {
        if (turned(a, b) != 0 || !drawn) {
            return NONE;
        }
        return points.getOrDefault(a + " " + b + " " + l + " " + what, NONE);
    }

    boolean keep() {
        refresh();
        if (!drawn) {
            return false;
        }
        kept = new ArrayList<>();
        for (List<Integer> one : order) {
            kept.add(new ArrayList<>(one));
        }
        fresh = false;
        return true;
    }

    void forget() {
        kept = null;
        fresh = false;
    }

    int orders() {
        refresh();
        return drawn ? orders : NONE;
    }

    private static boolean out(int n, int least, int most) {
        return n < least || n > most;
    }

    private void refresh() {
        if (fresh) {
            return;
        }
        fresh = true;
        findRow();
        findLayers();
        findItems();
        drawn = items.stream().allMatch(one -> one.size() <= 5);
        if (drawn) {
            findOrder();
            draw();
        }
    }

    // ---- THE ROW

    private void findRow() {
        List<Integer> used = new ArrayList<>();
        for (int p = 0; p < 10; p++) {
            boolean isUsed = false;
            for (int q = 0; q < 10; q++) {
                isUsed |= widths[p][q] + widths[q][p] > 0;
            }
            if (isUsed) {
                used.add(p);
            }
        }
        row = null;
        rowSum = Integer.MAX_VALUE;
        tryRows(used, new ArrayList<>(), 0);
    }

    private void tryRows(List<Integer> left, List<Integer> ahead, int sum) {
        if (sum >= rowSum) {
            return;
        }
        if (left.isEmpty()) {
            row = new ArrayList<>(ahead);
            rowSum = sum;
            return;
        }
        for (int p : left) {
            int more = 0;
            for (int q : ahead) {
                more += widths[p][q];
            }
            List<Integer> others = new ArrayList<>(left);
            others.remove(Integer.valueOf(p));
            ahead.add(p);
            tryRows(others, ahead, sum + more);
            ahead.remove(ahead.size() - 1);
        }
    }

    private boolean straight(int a, int b) {
        return widths[a][b] > 0 && row.indexOf(a) < row.indexOf(b);
    }

    private void findLayers() {
        layer = new int[10];
        for (int p = 0; p < 10; p++) {
            layer[p] = row.contains(p) ? longestTo(p) : NONE;
        }
    }

    private int longestTo(int p) {
        int longest = 0;
        for (int q = 0; q < 10; q++) {
            if (straight(q, p)) {
                longest = Math.max(longest, longestTo(q) + 1);
            }
        }
        return longest;
    }

    // ---- ITEMS and LINKS; a link is {from item, to item, width, a, b}

    private void findItems() {
        items = new ArrayList<>();
        links = new ArrayList<>();
        for (int p : row) {
            while (items.size() <= layer[p]) {
                items.add(new ArrayList<>());
                links.add(new ArrayList<>());
            }
            items.get(layer[p]).add(p);
        }
        for (int a = 0; a < 10; a++) {
            for (int b = 0; b < 10; b++) {
                if (straight(a, b)) {
                    lead(a, b);
                }
            }
        }
        items.forEach(one -> one.sort(null));
    }

    private void lead(int a, int b) {
        int from = a;
        for (int l = layer[a] + 1; l <= layer[b]; l++) {
            int to = l == layer[b] ? b : 100 + 10 * a + b;
            if (to != b) {
                items.get(l).add(to);
            }
            links.get(l - 1).add(new int[] {from, to, widths[a][b], a, b});
            from = to;
        }
    }

    // ---- THE ORDER

    private void findOrder() {
        long all = 1;
        List<List<List<Integer>>> rows = new ArrayList<>();
        for (List<Integer> one : items) {
            List<List<Integer>> some = new ArrayList<>();
            permute(one, new ArrayList<>(), some);
            rows.add(some);
            all = Math.min(all * some.size(), FEW + 1);
        }
        if (all <= FEW) {
            triedWhole++;
            cost = Integer.MAX_VALUE;
            orders = 0;
            tryOrders(rows, new ArrayList<>());
        } else {
            triedByLayer++;
            orderByLayers(rows);
        }
        parts = new int[3];
        for (int l = 0; l < order.size(); l++) {
            parts[2] += moves(order.get(l));
            if (l + 1 < order.size()) {
                int[] crosses = crosses(l, order.get(l), order.get(l + 1));
                parts[0] += crosses[0];
                parts[1] += crosses[1];
            }
        }
    }

    private static void permute(List<Integer> left, List<Integer> ahead, List<List<Integer>> to) {
        if (left.isEmpty()) {
            to.add(new ArrayList<>(ahead));
        }
        for (int i = 0; i < left.size(); i++) {
            List<Integer> others = new ArrayList<>(left);
            ahead.add(others.remove(i));
            permute(others, ahead, to);
            ahead.remove(ahead.size() - 1);
        }
    }

    private void tryOrders(List<List<List<Integer>>> rows, List<List<Integer>> ahead) {
        int l = ahead.size();
        if (l == rows.size()) {
            int sum = 0;
            for (int k = 0; k < l; k++) {
                sum += price * moves(ahead.get(k));
                sum += k + 1 < l ? crosses(k, ahead.get(k), ahead.get(k + 1))[0] : 0;
            }
            if (sum < cost) {
                cost = sum;
                orders = 0;
                order = new ArrayList<>(ahead);
            }
            orders += sum == cost ? 1 : 0;
            return;
        }
        for (List<Integer> one : rows.get(l)) {
            ahead.add(one);
            tryOrders(rows, ahead);
            ahead.remove(l);
        }
    }

    private void orderByLayers(List<List<List<Integer>>> rows) {
        int n = rows.size();
        int[][] from = new int[n][];
        BigInteger[][] ways = new BigInteger[n][];
        int[][] first = new int[n][];
        for (int l = n - 1; l >= 0; l--) {
            int size = rows.get(l).size();
            from[l] = new int[size];
            ways[l] = new BigInteger[size];
            first[l] = new int[size];
            for (int s = 0; s < size; s++) {
                int best = l == n - 1 ? 0 : Integer.MAX_VALUE;
                BigInteger count = BigInteger.ONE;
                for (int t = 0; l < n - 1 && t < rows.get(l + 1).size(); t++) {
                    int sum = crosses(l, rows.get(l).get(s), rows.get(l + 1).get(t))[0] + from[l + 1][t];
                    if (sum < best) {
                        best = sum;
                        count = BigInteger.ZERO;
                        first[l][s] = t;
                    }
                    if (sum == best) {
                        count = count.add(ways[l + 1][t]);
                    }
                }
                from[l][s] = best + price * moves(rows.get(l).get(s));
                ways[l][s] = count;
            }
        }
        cost = Integer.MAX_VALUE;
        int s = 0;
        for (int k = 0; k < from[0].length; k++) {
            if (from[0][k] < cost) {
                cost = from[0][k];
                s = k;
            }
        }
        BigInteger count = BigInteger.ZERO;
        for (int k = 0; k < from[0].length; k++) {
            count = from[0][k] == cost ? count.add(ways[0][k]) : count;
        }
        orders = count.intValue();
        order = new ArrayList<>();
        for (int l = 0; l < n; l++) {
            order.add(rows.get(l).get(s));
            s = first[l][s];
        }
    }

    private int[] crosses(int l, List<Integer> here, List<Integer> next) {
        int sum = 0;
        int pairs = 0;
        List<int[]> some = links.get(l);
        int[] begins = new int[some.size()];
        int[] ends = new int[some.size()];
        for (int i = 0; i < some.size(); i++) {
            begins[i] = here.indexOf(some.get(i)[0]);
            ends[i] = next.indexOf(some.get(i)[1]);
        }
        for (int i = 0; i < some.size(); i++) {
            for (int j = 0; j < some.size(); j++) {
                if (begins[i] < begins[j] && ends[i] > ends[j]) {
                    sum += some.get(i)[2] * some.get(j)[2];
                    pairs++;
                }
            }
        }
        return new int[] {sum, pairs};
    }

    private int moves(List<Integer> here) {
        int moves = 0;
        for (int i = 0; kept != null && i < here.size(); i++) {
            for (int j = i + 1; j < here.size(); j++) {
                for (List<Integer> there : kept) {
                    int p = here.get(i);
                    int q = here.get(j);
                    boolean both = p < 10 && q < 10 && there.contains(p) && there.contains(q);
                    moves += both && there.indexOf(p) > there.indexOf(q) ? 1 : 0;
                }
            }
        }
        return moves;
    }

    // ---- DRAWN

    private int size(int number) {
        if (number >= 100) {
            return widths[(number - 100) / 10][number % 10];
        }
        int in = 0;
        int out = 0;
        for (int q = 0; q < 10; q++) {
            in += straight(q, number) ? widths[q][number] : 0;
            out += straight(number, q) ? widths[number][q] : 0;
        }
        return Math.max(Math.max(in, out), 1);
    }

    // LINKS are laid from the top in the order of their other ends, each below the one before.
    private void draw() {
        tops = new HashMap<>();
        points = new HashMap<>();
        for (int l = 0; l < order.size(); l++) {
            int y = 0;
            for (int number : order.get(l)) {
                tops.put(1000 * l + number, y);
                if (l + 1 < order.size()) {
                    int at = y;
                    for (int to : order.get(l + 1)) {
                        at = lay(l, l, 1, number, to, at);
                    }
                }
                if (l > 0) {
                    int at = y;
                    for (int from : order.get(l - 1)) {
                        at = lay(l - 1, l, 0, from, number, at);
                    }
                }
                y += size(number) + gap;
            }
        }
    }

    private int lay(int between, int l, int what, int from, int to, int at) {
        for (int[] link : links.get(between)) {
            if (link[0] == from && link[1] == to) {
                points.put(link[3] + " " + link[4] + " " + l + " " + what, at);
                return at + link[2];
            }
        }
        return at;
    }
}
