import java.util.ArrayList;
import java.util.Arrays;
import java.util.List;
import java.util.Random;

/** THE MAPPING of small trees, beside the list of all their mappings, gone over as the document tells. */
public final class MappingTest {
    private final Random random;
    private final BranchMender mender = new BranchMender();
    private final int[] prices = {2, 1, 3, 3};
    private List<PlainModel.Node> first;
    private List<PlainModel.Node> second;
    private List<int[]> cheapest;
    private int least;

    private MappingTest(int run) {
        random = new Random(run);
    }

    public static void main(String[] args) {
        for (int run = 0; run < 4000 && !Bench.hasFailed(); run++) {
            new MappingTest(run).check(run);
        }
        Bench.end("mappings beside all mappings");
    }

    private void check(int run) {
        for (int act = 0; act < 4; act++) {
            if (random.nextInt(2) == 0) {
                prices[act] = random.nextInt(5);
                mender.price(act, prices[act]);
            }
        }
        PlainModel model = new PlainModel();
        for (int p = 0; p < 2; p++) {
            left = 1 + random.nextInt(5);
            String text = text();
            Bench.read(mender, p, text);
            for (int k = 0; k < text.length(); k++) {
                model.feed(text.charAt(k), 1);
            }
            if (model.read(p) < 0) {
                return;
            }
        }
        first = PlainModel.behind(model.places[0]);
        second = PlainModel.behind(model.places[1]);
        listCheapest();
        String call = "run " + run + ": " + PlainModel.text(model.places[0]) + " to " + PlainModel.text(model.places[1])
            + " at " + Arrays.toString(prices);
        Bench.due(call + ", distance", mender.distance(0, 1), least);
        int[] due = settle();
        int pairs = 0;
        StringBuilder told = new StringBuilder();
        for (PlainModel.Node node : PlainModel.ahead(model.places[0])) {
            int y = due[first.indexOf(node)];
            if (y >= 0) {
                told.append(pairs == 0 ? "" : " ").append(node.name).append('-').append(second.get(y).name);
                pairs++;
            }
        }
        Bench.due(call + ", map", mender.map(0, 1), pairs);
        Bench.due(call + ", pairs", Bench.pairs(mender), told.toString());
        int cost = 0;
        for (int i = 0; i < mender.acts(); i++) {
            cost += mender.act(i, 2);
        }
        Bench.due(call + ", price of all acts", cost, least);
    }

    private int left;

    private String text() {
        left--;
        StringBuilder text = new StringBuilder().append("ab".charAt(random.nextInt(2)));
        if (random.nextInt(3) == 0) {
            text.append("=1");
        }
        if (random.nextInt(8) == 0) {
            return text.append('!').toString();
        }
        StringBuilder inside = new StringBuilder();
        for (int c = random.nextInt(4); c > 0 && left > 0; c--) {
            inside.append(inside.length() == 0 ? "" : ",").append(text());
        }
        int kind = random.nextInt(4) == 0 ? 1 : 0;
        if (kind == 0 && inside.length() == 0) {
            return text.toString();
        }
        return text.append("({".charAt(kind)).append(inside).append(")}".charAt(kind)).toString();
    }

    /** A mapping is told by the second tree's number for each of the first tree's, or -1. */
    private void listCheapest() {
        cheapest = new ArrayList<>();
        least = Integer.MAX_VALUE;
        int[] mapping = new int[first.size()];
        extend(mapping, 0);
    }

    private void extend(int[] mapping, int x) {
        if (x == mapping.length) {
            int cost = cost(mapping);
            if (cost < least) {
                least = cost;
                cheapest.clear();
            }
            if (cost == least) {
                cheapest.add(mapping.clone());
            }
            return;
        }
        mapping[x] = -1;
        extend(mapping, x + 1);
        for (int y = 0; y < second.size(); y++) {
            if (fits(mapping, x, y)) {
                mapping[x] = y;
                extend(mapping, x + 1);
            }
        }
    }

    private boolean fits(int[] mapping, int x, int y) {
        PlainModel.Node a = first.get(x);
        PlainModel.Node b = second.get(y);
        if (a.kind != b.kind || a.kind == 3 && !(a.label.equals(b.label) && a.text.equals(b.text))) {
            return false;
        }
        for (int w = 0; w < x; w++) {
            if (mapping[w] == y || mapping[w] >= 0 && !relation(first, w, x).equals(relation(second, mapping[w], y))) {
                return false;
            }
        }
        return true;
    }

    private static boolean isUnder(List<PlainModel.Node> tree, int low, int high) {
        return low != high && PlainModel.ahead(tree.get(high)).contains(tree.get(low));
    }

    private static String relation(List<PlainModel.Node> tree, int i, int j) {
        if (isUnder(tree, i, j)) {
            return "below";
        }
        if (isUnder(tree, j, i)) {
            return "above";
        }
        return i < j ? "left" : "right";
    }

    private int cost(int[] mapping) {
        int cost = 0;
        int pairs = 0;
        for (int x = 0; x < mapping.length; x++) {
            if (mapping[x] >= 0) {
                PlainModel.Node a = first.get(x);
                PlainModel.Node b = second.get(mapping[x]);
                pairs++;
                cost += a.label.equals(b.label) ? 0 : prices[0];
                cost += a.text.equals(b.text) ? 0 : prices[1];
            }
        }
        return cost + prices[3] * (first.size() - pairs) + prices[2] * (second.size() - pairs);
    }

    private int[] settle() {
        int[] settled = new int[first.size()];
        Arrays.fill(settled, -1);
        int x = first.size() - 1;
        int y = second.size() - 1;
        while (x >= 0 || y >= 0) {
            if (y < 0 || x >= 0 && isApart(settled, x, y, true)) {
                keepAlone(x--);
            } else if (x < 0 || isApart(settled, x, y, false)) {
                keepAloneSecond(y--);
            } else if (somePairs(x, y)) {
                settled[x] = y;
                keepPair(x--, y--);
            } else if (someAlone(x)) {
                keepAlone(x--);
            } else {
                keepAloneSecond(y--);
            }
        }
        Bench.due("one mapping is left", cheapest.size(), 1);
        return settled;
    }

    private boolean isApart(int[] settled, int x, int y, boolean ofFirst) {
        for (int w = 0; w < settled.length; w++) {
            if (settled[w] >= 0) {
                boolean one = isUnder(first, x, w);
                boolean other = isUnder(second, y, settled[w]);
                if (ofFirst ? one && !other : other && !one) {
                    return true;
                }
            }
        }
        return false;
    }

    private boolean somePairs(int x, int y) {
        return cheapest.stream().anyMatch(mapping -> mapping[x] == y);
    }

    private boolean someAlone(int x) {
        return cheapest.stream().anyMatch(mapping -> mapping[x] < 0);
    }

    private void keepPair(int x, int y) {
        cheapest.removeIf(mapping -> mapping[x] != y);
    }

    private void keepAlone(int x) {
        cheapest.removeIf(mapping -> mapping[x] >= 0);
    }

    private void keepAloneSecond(int y) {
        cheapest.removeIf(mapping -> Arrays.stream(mapping).anyMatch(other -> other == y));
    }
}
